/-! ===== the model's whole runs: as it would be ===== -/
/-- what a run that is taken back changes -/
def mrF (q : Nat) (j : Int) : Prop := mgF q j ∨ (q = 152 ∧ j = 46) ∨ (q = 177 ∧ 315 ≤ j)
/-- cup and LAWS of the model as it is -/
def mhl (D : DD) (lw : Int → Option (List Int)) : Option (List Int) := lw (cSet (mcup D) 6)
theorem zgo_out {c : Cv} {L : Option (List Int)} {w : Wv} {t : Int → Int} {n : Nat} {i seed : Int} {s : Sv} (hc : COK c) (hn : n ≤ 1000) : zout (zrun 1050 c L w t n i (zbeg c s seed)) = zOut c L w t n i seed := by
  rw [zrun_cap (cap' := 1040) (by show (0 : Nat) + n ≤ 1050; omega) (by show (0 : Nat) + n ≤ 1040; omega)]
  exact zbeg_run hc (by omega)
/-- what holds of the model wherever a run begins -/
def MRun (D : DD) (lw : Int → Option (List Int)) : Prop := MB D ∧ COK (mcup D) ∧ SOK (mst D) ∧ MLaw D lw ∧ ∀ a, 0 ≤ a → a ≤ 3 → 0 ≤ D 161 a ∧ D 161 a ≤ 1000
section MRU
variable {d n1 : Nat} {W : Nat → Nat} {D : DD} {lw : Int → Option (List Int)}
theorem mcup_mr {D' : DD} (f : Fr mrF D D') : mcup D' = mcup D := mcup_fr f (fun j x y => by unfold mrF mgF; omega) (fun q j x y => by unfold mrF mgF; omega)
theorem MB.mr {D' : DD} (h : MB D) (f : Fr mrF D D') : MB D' := by
  unfold MB
  rw [f 152 0 (by unfold mrF mgF; omega)]
  exact h
theorem MRun.mr {D' : DD} (h : MRun D lw) (f : Fr mrF D D') (hs : SOK (mst D')) : MRun D' lw := by
  obtain ⟨h1, h2, h3, h4, h5⟩ := h
  refine ⟨h1.mr f, by rw [mcup_mr f]; exact h2, hs, h4.fr f (fun q j x y => by unfold mrF mgF; omega), fun a a0 a1 => ?_⟩
  rw [f 161 a (by unfold mrF mgF; omega)]
  exact h5 a a0 a1
/-- behind putBy, begin, R, watch -/
theorem mbeg_join {D1 D2 D4 : DD} {seed : Int} (f1 : Fr (pkF 3) D D1) (k1 : mkv D1 177 (105 * 3) = mst D) (f2 : Fr mbF D1 D2) (h2 : mst D2 = zfresh (mcup D1) (mst D1)) (f4 : Fr wtF (wr D2 152 10 seed) D4)
    (w40 : D4 152 40 = -1) (w41 : D4 152 41 = -1) (w42 : D4 152 42 = 0) (w44 : D4 152 44 = 0) : Fr mrF D D4 ∧ Wat D4 (zbeg (mcup D) (mst D) seed) ∧ D4 152 41 = -1 ∧ mkv D4 177 (105 * 3) = mst D := by
  have fw : Fr (fun q j => q = 152 ∧ j = 10) D2 (wr D2 152 10 seed) := Fr.refl.wr ⟨rfl, rfl⟩
  have f24 : Fr mgF D1 D4 := ((f2.mono (fun q j z => by unfold mbF at z; unfold mgF; omega)).trans (fw.mono (fun q j z => by unfold mgF; omega))).trans (f4.mono (fun q j z => by unfold wtF at z; unfold mgF; omega))
  have c1 : mcup D1 = mcup D := mcup_fr f1 (fun j x y => by unfold pkF; omega) (fun q j x y => by unfold pkF; omega)
  have s1 : mst D1 = mst D := mst_fr f1 (by unfold pkF; omega) (by unfold pkF; omega) (fun q j x y => by unfold pkF; omega)
  have s4 : mst D4 = (0, seed, (zfresh (mcup D) (mst D)).2.2) := by
    rw [mst_fr f4 (by unfold wtF; omega) (by unfold wtF; omega) (fun q j x y => by unfold wtF; omega)]
    have e : mst (wr D2 152 10 seed) = (sTick (mst D2), seed, (mst D2).2.2) := by
      unfold mst mrow
      rw [wr_at, wr_j (by decide), wr_o (by decide), wr_o (by decide), wr_o (by decide), wr_o (by decide)]
      rfl
    rw [e, h2, c1, s1]
    rfl
  refine ⟨(f1.mono (fun q j z => by unfold pkF at z; unfold mrF; omega)).trans (f24.mono (fun q j z => Or.inl z)), ⟨s4, w40, w42, by rw [w44]; exact lst_0 (by decide), by omega, by omega⟩, w41, ?_⟩
  rw [← k1]
  exact mkv_ext (fun o a b => f24 177 _ (by unfold mgF; omega))
/-- behind the run, brought back -/
theorem mend_join {D4 D5 D6 : DD} (f4 : Fr mrF D D4) (k4 : mkv D4 177 (105 * 3) = mst D) (f5 : Fr mgF D4 D5) (f6 : Fr bbF D5 D6) (h6 : mst D6 = mkv D5 177 (105 * 3)) : Fr mrF D D6 ∧ mst D6 = mst D := by
  refine ⟨(f4.trans (f5.mono (fun q j z => Or.inl z))).trans (f6.mono (fun q j z => by unfold bbF at z; unfold mrF mgF; omega)), ?_⟩
  rw [h6, ← k4]
  exact mkv_ext (fun o a b => f5 177 _ (by unfold mgF; omega))
theorem zbeg_ok' {c : Cv} {s : Sv} {seed : Int} (hc : COK c) : ZOK (zbeg c s seed) ∧ zSum (zbeg c s seed) = 0 ∧ sTick (zS (zbeg c s seed)) = 0 ∧ zFirst (zbeg c s seed) = -1 := ⟨zbeg_ok hc, rfl, rfl, rfl⟩
/-- what a watched run has told -/
def MTold (D : DD) (o : Zo) : Prop := D 152 40 = oFirst o ∧ D 152 42 = oHigh o ∧ lst (D 176) (D 152 44) = oList o ∧ 0 ≤ D 152 44 ∧ D 152 44 ≤ 1050
theorem MTold.of {z : Zr} {o : Zo} (h : Wat D z) (e : zout z = o) : MTold D o := by
  obtain ⟨h1, h2, h3, h4, h5, h6⟩ := h
  subst e
  exact ⟨h2, h3, h4, h5, h6⟩
theorem MTold.fr {D' : DD} {F : Nat → Int → Prop} {o : Zo} (h : MTold D o) (f : Fr F D D') (n0 : ¬ F 152 40) (n1 : ¬ F 152 42) (n2 : ¬ F 152 44) (n3 : ∀ j, ¬ F 176 j) : MTold D' o := by
  unfold MTold
  rw [f 152 40 n0, f 152 42 n1, f 152 44 n2, f.obj (o := 176) n3]
  exact h
theorem sum_is {z z' : Zr} {x : Int} (h : zSum z = 0) (e : zSum z' = w32 (zSum z + x)) (hx : w32 x = x) : zSum z' = x := by
  rw [e, h, Int.zero_add, hx]
/-- from a TICK on, and back: two's runs, and the whole ones (k 0) -/
theorem m_from {a k : Int} {D4 : DD} (ha : 0 ≤ a ∧ a ≤ 3) (hm : MRun D4 lw) {s : Sv} {seed : Int} (hw : Wat D4 (zbeg (mcup D4) s seed)) (k0 : 0 ≤ k) (k1 : k ≤ 1000) : Cl (d + 129) 0 0 mX10_goOn [vr 152, vi a, vi k, vi 1000, vi 1001] (D4, rho n1 W) (KI (fun x m => ∃ (D' : DD) (V : Nat → Nat), m = (D', rho n1 V) ∧ V12 W V ∧ Fr mgF D4 D' ∧ MTold D' (zOut (mcup D4) (mhl D4 lw) (wkm D4 a) (fun _ => 0) (wTicks (wkm D4 a) - k).toNat k seed) ∧
      x = oSum (zOut (mcup D4) (mhl D4 lw) (wkm D4 a) (fun _ => 0) (wTicks (wkm D4 a) - k).toNat k seed) ∧ (k = 0 → D4 152 41 = -1 → D' 152 41 = zstepAt (wkm D4 a) (oFirst (zOut (mcup D4) (mhl D4 lw) (wkm D4 a) (fun _ => 0) (wTicks (wkm D4 a) - k).toNat k seed))))) := by
  obtain ⟨h1, h2, h3, h4, h5⟩ := hm
  obtain ⟨b0, b1, b2, b3⟩ := zbeg_ok' (s := s) (seed := seed) h2
  obtain ⟨w0, w1⟩ := h5 a ha.1 ha.2
  refine Cl.weak (KI.weak ?_) (C_mgoOn (D := D4) (lw := lw) (a := a) (fr := k) (to := 1000) (tu := 1001) ha ⟨w0, w1⟩ h1 h2 hw b0 k0 k1 (by omega) (by omega) h4)
  rintro x m ⟨D', V, rfl, hV, hF, hW, hS, hx, h41⟩
  have ez : zout (zGo D4 lw a k 1000 1001 (zbeg (mcup D4) s seed)) = zOut (mcup D4) (mhl D4 lw) (wkm D4 a) (fun _ => 0) (wTicks (wkm D4 a) - k).toNat k seed := by
    rw [← zgo_out (s := s) h2 (by show (D4 161 a - k).toNat ≤ 1000; omega)]
    unfold zGo
    rw [show (min 1000 (D4 161 a) - k).toNat = (wTicks (wkm D4 a) - k).toNat by show _ = (D4 161 a - k).toNat; omega]
    refine congrArg zout (zrun_t (fun i i0 i1 => bi_0 ?_))
    have : wTicks (wkm D4 a) = D4 161 a := rfl
    omega
  have es := sum_is b1 hS hx
  rw [← ez]
  refine ⟨D', V, rfl, hV, hF, MTold.of hW rfl, es.symm, fun hk h => ?_⟩
  exact h41 (by rw [b2, hk]) (by rw [h, b3]; rfl)
theorem C_mwholly {a seed : Int} (ha : 0 ≤ a ∧ a ≤ 3) (hm : MRun D lw) : Cl (d + 130) 0 0 mX10_wholly [vr 152, vi a, vi seed] (D, rho n1 W) (KI (fun x m => ∃ (D' : DD) (V : Nat → Nat), m = (D', rho n1 V) ∧ V12 W V ∧ Fr mrF D D' ∧ mst D' = mst D ∧ x = oSum (zOn (mcup D) (mhl D lw) (wkm D a) seed) ∧ MTold D' (zOn (mcup D) (mhl D lw) (wkm D a) seed) ∧ D' 152 41 = zstepAt (wkm D a) (oFirst (zOn (mcup D) (mhl D lw) (wkm D a) seed)))) := by
  refine Cl_of mb_X10_wholly (Nat.le_of_ble_eq_true rfl) (sg_X10_wholly_0 ⟨rfl, cV (C_mputBy (D := D) (i := 3) (by decide) (by decide)) ?_⟩)
  rintro m ⟨D1, rfl, f1, k1⟩
  refine ⟨rfl, cV (C_mbegin (D := D1)) ?_⟩
  rintro m ⟨D2, rfl, f2, h2⟩
  refine ⟨rfl, fun m3 e3 => ?_⟩
  have e3 : m3 = (wr D2 152 10 seed, rho n1 W) := e3
  subst e3
  refine cV (C_mwatch (D := wr D2 152 10 seed)) ?_
  rintro m ⟨D4, rfl, f4, w40, w41, w42, w44⟩
  obtain ⟨g4, gW, g41, k4⟩ := mbeg_join f1 k1 f2 h2 f4 w40 w41 w42 w44
  have c4 := mcup_mr g4
  have hm4 : MRun D4 lw := hm.mr g4 (by rw [gW.1]; exact (zbeg_ok hm.2.1).1)
  have w4 : wkm D4 a = wkm D a := wkm_fr g4 (fun q j x y => by unfold mrF mgF; omega)
  have l4 : mhl D4 lw = mhl D lw := by unfold mhl; rw [c4]
  refine ⟨rfl, cI (m_from (D4 := D4) (k := 0) (s := mst D) (seed := seed) ha hm4 (by rw [c4]; exact gW) (by decide) (by decide)) ?_⟩
  rintro x m ⟨D5, V, rfl, hV, f5, t5, hx, h41⟩
  have h41 := h41 rfl g41
  have e0 : zOut (mcup D4) (mhl D4 lw) (wkm D4 a) (fun _ => 0) (wTicks (wkm D4 a) - 0).toNat 0 seed = zOn (mcup D) (mhl D lw) (wkm D a) seed := by
    rw [c4, l4, w4, Int.sub_zero]
    rfl
  rw [e0] at t5 hx h41
  rw [w4] at h41
  refine ⟨rfl, cV (C_mbringBack (D := D5) (i := 3) (by decide) (by decide)) ?_⟩
  rintro m ⟨D6, rfl, f6, h6⟩
  obtain ⟨g6, s6⟩ := mend_join g4 k4 f5 f6 h6
  exact ⟨_, rfl, D6, V, rfl, hV, g6, s6, hx, t5.fr f6 (by unfold bbF; omega) (by unfold bbF; omega) (by unfold bbF; omega) (fun j => by unfold bbF; omega), by rw [f6 152 41 (by unfold bbF; omega), h41]⟩
/-- turn's and door's run: nothing stands -/
theorem C_mwithTurn {a t : Int} (ha : 0 ≤ a ∧ a ≤ 3) (hm : MRun D lw) : Cl (d + 130) 0 0 mX10_withPause [vr 152, vi a, vi t, vi 0, vi 0] (D, rho n1 W) (KI (fun x m => ∃ (D' : DD) (V : Nat → Nat), m = (D', rho n1 V) ∧ V12 W V ∧ Fr mrF D D' ∧ mst D' = mst D ∧ x = oSum (zTurn (mcup D) (mhl D lw) (wkm D a) t))) := by
  refine Cl_of mb_X10_withPause (Nat.le_of_ble_eq_true rfl) (sg_X10_withPause_0 ⟨rfl, cV (C_mputBy (D := D) (i := 3) (by decide) (by decide)) ?_⟩)
  rintro m ⟨D1, rfl, f1, k1⟩
  refine ⟨rfl, cV (C_mbegin (D := D1)) ?_⟩
  rintro m ⟨D2, rfl, f2, h2⟩
  refine ⟨rfl, fun m3 e3 => ?_⟩
  have e3 : m3 = (wr D2 152 10 1, rho n1 W) := e3
  subst e3
  refine cV (C_mwatch (D := wr D2 152 10 1)) ?_
  rintro m ⟨D4, rfl, f4, w40, w41, w42, w44⟩
  obtain ⟨g4, gW, g41, k4⟩ := mbeg_join f1 k1 f2 h2 f4 w40 w41 w42 w44
  have c4 := mcup_mr g4
  have hm4 : MRun D4 lw := hm.mr g4 (by rw [gW.1]; exact (zbeg_ok hm.2.1).1)
  have w4 : wkm D4 a = wkm D a := wkm_fr g4 (fun q j x y => by unfold mrF mgF; omega)
  have l4 : mhl D4 lw = mhl D lw := by unfold mhl; rw [c4]
  obtain ⟨b0, b1, b2, b3⟩ := zbeg_ok' (s := mst D) (seed := 1) hm.2.1
  have hm4' := hm4
  obtain ⟨p1, p2, p3, p4, p5⟩ := hm4
  refine ⟨rfl, cI (C_mgoOn (D := D4) (lw := lw) (a := a) (fr := 0) (to := 0) (tu := t) ha (p5 a ha.1 ha.2) p1 p2 gW b0 (by decide) (by decide) (by omega) (by omega) p4) ?_⟩
  rintro x1 m ⟨D5, V, rfl, hV, f5, hW5, hS5, hx5, -⟩
  have z5 : zGo D4 lw a 0 0 t (zbeg (mcup D) (mst D) 1) = zbeg (mcup D) (mst D) 1 := by
    unfold zGo
    have := p5 a ha.1 ha.2
    rw [show (min 0 (D4 161 a) - 0).toNat = 0 by omega, zrun_0]
  rw [z5] at hW5 hS5
  have x10 : x1 = 0 := (sum_is b1 hS5 hx5).symm.trans b1
  subst x10
  have g5 : Fr mrF D D5 := g4.trans (f5.mono (fun q j z => Or.inl z))
  have c5 := mcup_mr g5
  have hm5 : MRun D5 lw := hm.mr g5 (by rw [hW5.1]; exact b0.1)
  have w5 : wkm D5 a = wkm D a := wkm_fr g5 (fun q j x y => by unfold mrF mgF; omega)
  have k5 : D5 161 a = D 161 a := g5 161 a (by unfold mrF mgF; omega)
  obtain ⟨q1, q2, q3, q4, q5⟩ := hm5
  refine sg_X10_withPause_31 ⟨fun _ => ⟨rfl, cI (C_mgoOn (D := D5) (lw := lw) (a := a) (fr := 0) (to := 1000) (tu := t) ha (q5 a ha.1 ha.2) q1 q2 hW5 b0 (by decide) (by decide) (by omega) (by omega) q4) ?_⟩, fun c => absurd (Int.le_refl 0) c⟩
  rintro x2 m ⟨D6, U, rfl, hU, f6, hW6, hS6, hx6, -⟩ v1 ev
  have x2e := sum_is b1 hS6 hx6
  have ev : v1 = x2 := by rw [ev, Int.zero_add, hx6]
  subst ev
  refine ⟨rfl, cV (C_mbringBack (D := D6) (i := 3) (by decide) (by decide)) ?_⟩
  rintro m ⟨D7, rfl, f7, h7⟩
  obtain ⟨g7, s7⟩ := mend_join g4 k4 (f5.trans f6) f7 h7
  refine ⟨_, rfl, D7, U, rfl, hV.trans hU, g7, s7, ?_⟩
  rw [← x2e]
  show _ = (zOut (mcup D) (mhl D lw) (wkm D a) (fun i => bi (t ≤ i)) (wTicks (wkm D a)).toNat 0 1).1
  have hb := hm.2.2.2.2 a ha.1 ha.2
  rw [← zgo_out (s := mst D) hm.2.1 (by show (D 161 a).toNat ≤ 1000; omega)]
  unfold zGo
  rw [c5, w5, k5, show (min 1000 (D 161 a) - 0).toNat = (wTicks (wkm D a)).toNat by show _ = (D 161 a).toNat; omega]
  rfl
/-- pause's run -/
theorem C_mwithPause {a at' k : Int} (ha : 0 ≤ a ∧ a ≤ 3) (hm : MRun D lw) (t0 : 0 ≤ at') (t1 : at' ≤ 1000) (k0 : 0 ≤ k) (k1 : k ≤ 40) : Cl (d + 130) 0 0 mX10_withPause [vr 152, vi a, vi 1001, vi at', vi k] (D, rho n1 W) (KI (fun x m => ∃ (D' : DD) (V : Nat → Nat), m = (D', rho n1 V) ∧ V12 W V ∧ Fr mrF D D' ∧ mst D' = mst D ∧ x = oSum (zPause (mcup D) (mhl D lw) (wkm D a) at' k.toNat))) := by
  refine Cl_of mb_X10_withPause (Nat.le_of_ble_eq_true rfl) (sg_X10_withPause_0 ⟨rfl, cV (C_mputBy (D := D) (i := 3) (by decide) (by decide)) ?_⟩)
  rintro m ⟨D1, rfl, f1, kk1⟩
  refine ⟨rfl, cV (C_mbegin (D := D1)) ?_⟩
  rintro m ⟨D2, rfl, f2, h2⟩
  refine ⟨rfl, fun m3 e3 => ?_⟩
  have e3 : m3 = (wr D2 152 10 1, rho n1 W) := e3
  subst e3
  refine cV (C_mwatch (D := wr D2 152 10 1)) ?_
  rintro m ⟨D4, rfl, f4, w40, w41, w42, w44⟩
  obtain ⟨g4, gW, g41, k4⟩ := mbeg_join f1 kk1 f2 h2 f4 w40 w41 w42 w44
  have c4 := mcup_mr g4
  have hm4 : MRun D4 lw := hm.mr g4 (by rw [gW.1]; exact (zbeg_ok hm.2.1).1)
  have w4 : wkm D4 a = wkm D a := wkm_fr g4 (fun q j x y => by unfold mrF mgF; omega)
  have kt4 : D4 161 a = D 161 a := g4 161 a (by unfold mrF mgF; omega)
  obtain ⟨b0, b1, b2, b3⟩ := zbeg_ok' (s := mst D) (seed := 1) hm.2.1
  obtain ⟨wb0, wb1⟩ := hm.2.2.2.2 a ha.1 ha.2
  obtain ⟨p1, p2, p3, p4, p5⟩ := hm4
  refine ⟨rfl, cI (C_mgoOn (D := D4) (lw := lw) (a := a) (fr := 0) (to := at') (tu := 1001) ha (p5 a ha.1 ha.2) p1 p2 gW b0 (by decide) (by decide) (by omega) (by omega) p4) ?_⟩
  rintro x1 m ⟨D5, V, rfl, hV, f5, hW5, hS5, hx5, -⟩
  obtain ⟨N, hN⟩ : ∃ N, N = (min at' (D 161 a)).toNat := ⟨_, rfl⟩
  have z5 : zGo D4 lw a 0 at' 1001 (zbeg (mcup D) (mst D) 1) = zrun 1050 (mcup D) (mhl D lw) (wkm D a) (fun _ => 0) N 0 (zbeg (mcup D) (mst D) 1) := by
    unfold zGo
    rw [c4, w4, kt4, Int.sub_zero, ← hN]
    exact zrun_t (fun i i0 i1 => bi_0 (by omega))
  rw [z5] at hW5 hS5
  obtain ⟨r0, r1, r2, r3⟩ := zrun_phys (cap := 1050) (L := mhl D lw) (w := wkm D a) (t := fun _ => 0) hm.2.1 (n := N) (i := 0) b0 (by omega) (by omega)
  have s5 : zSum (zrun 1050 (mcup D) (mhl D lw) (wkm D a) (fun _ => 0) N 0 (zbeg (mcup D) (mst D) 1)) = x1 := sum_is b1 hS5 hx5
  have ln : (zList (zrun 1050 (mcup D) (mhl D lw) (wkm D a) (fun _ => 0) N 0 (zbeg (mcup D) (mst D) 1))).length ≤ 0 + N := zrun_len
  obtain ⟨y, hy⟩ : ∃ y, y = zrun 1050 (mcup D) (mhl D lw) (wkm D a) (fun _ => 0) N 0 (zbeg (mcup D) (mst D) 1) := ⟨_, rfl⟩
  rw [← hy] at hW5 r0 r2 r3 s5 ln
  have g5 : Fr mrF D D5 := g4.trans (f5.mono (fun q j z => Or.inl z))
  have c5 := mcup_mr g5
  refine Wp.loop (σ := Int × Int) (fun σ => [some (vr 152), some (vi a), some (vi 1001), some (vi at'), some (vi k), some (vi σ.1), some (vi σ.2)])
    (fun σ μ => ∃ H : DD, μ = (H, rho n1 V) ∧ Fr mgF D5 H ∧ 0 ≤ σ.2 ∧ σ.2 ≤ k ∧ Wat H (zstill 1050 (mcup D) σ.2.toNat y) ∧ zSum (zstill 1050 (mcup D) σ.2.toNat y) = σ.1)
    (fun σ => (k - σ.2).toNat) ?_ (x1, 0) _ ⟨D5, rfl, Fr.refl, Int.le_refl _, k0, hW5, s5⟩
  rintro ⟨s, i⟩ μ ⟨H, rfl, hF, i0, i1, hW, hS⟩ ih
  dsimp only at i0 i1 hW hS ih ⊢
  obtain ⟨t0', t1', t2'⟩ := zstill_phys (cap := 1050) hm.2.1 r0 (by omega) (by omega) (n := i.toNat) (by omega)
  have gH : Fr mrF D H := g5.trans (hF.mono (fun q j z => Or.inl z))
  have cH := mcup_mr gH
  refine sg_X10_withPause_31 ⟨fun c => ⟨rfl, ?_⟩, fun c => ⟨rfl, ?_⟩⟩
  · have ei : i = k := by omega
    subst ei
    have hmH : MRun H lw := hm.mr gH (by rw [hW.1]; exact t0'.1)
    have wH : wkm H a = wkm D a := wkm_fr gH (fun q j x y => by unfold mrF mgF; omega)
    have kH : H 161 a = D 161 a := gH 161 a (by unfold mrF mgF; omega)
    obtain ⟨q1, q2, q3, q4, q5⟩ := hmH
    refine cI (C_mgoOn (D := H) (lw := lw) (a := a) (fr := at') (to := 1000) (tu := 1001) ha (q5 a ha.1 ha.2) q1 q2 hW t0' t0 t1 (by omega) (by omega) q4) ?_
    rintro x2 m ⟨D6, U, rfl, hU, f6, hW6, hS6, hx6, -⟩ v1 ev
    refine ⟨rfl, cV (C_mbringBack (D := D6) (i := 3) (by decide) (by decide)) ?_⟩
    rintro m ⟨D7, rfl, f7, h7⟩
    obtain ⟨g7, s7⟩ := mend_join g4 k4 ((f5.trans hF).trans f6) f7 h7
    refine ⟨_, rfl, D7, U, rfl, hV.trans hU, g7, s7, ?_⟩
    rw [ev, ← hS, ← hS6]
    show _ = zSum (zrun 1040 (mcup D) (mhl D lw) (wkm D a) (fun _ => 0) (wTicks (wkm D a) - at').toNat at' (zstill 1040 (mcup D) i.toNat (zrun 1040 (mcup D) (mhl D lw) (wkm D a) (fun _ => 0) (min at' (wTicks (wkm D a))).toNat 0 (zbeg0 (mcup D) 1))))
    have hwt : wTicks (wkm D a) = D 161 a := rfl
    have eA : zGo H lw a at' 1000 1001 (zstill 1050 (mcup D) i.toNat y) = zrun 1050 (mcup D) (mhl D lw) (wkm D a) (fun _ => 0) (wTicks (wkm D a) - at').toNat at' (zstill 1050 (mcup D) i.toNat y) := by
      unfold zGo
      rw [cH, wH, kH, show (min 1000 (D 161 a) - at').toNat = (wTicks (wkm D a) - at').toNat by omega]
      exact zrun_t (fun i i0 i1 => bi_0 (by omega))
    rw [eA]
    have len2 : ∀ n : Nat, (zList (zstill 1050 (mcup D) n y)).length ≤ (zList y).length + n ∧ ((zList y).length + n ≤ 1040 → zstill 1050 (mcup D) n y = zstill 1040 (mcup D) n y) := by
      intro n
      induction n with
      | zero => exact ⟨Nat.le_refl _, fun _ => rfl⟩
      | succ n ih =>
        obtain ⟨ih1, ih2⟩ := ih
        have el : ∀ (cap : Nat) (x : Int × Sv) (z : Zr), (zList (znote cap (mcup D) x z)).length ≤ (zList z).length + 1 := fun cap x z => by
          show (if _ then zList z ++ [_] else zList z).length ≤ _
          split
          · rw [List.length_append, List.length_singleton]; omega
          · omega
        refine ⟨?_, fun hle => ?_⟩
        · have := el 1050 (ztick (mcup D) 0 0 (zS (zstill 1050 (mcup D) n y))) (zstill 1050 (mcup D) n y)
          show (zList (znote 1050 (mcup D) _ _)).length ≤ _
          omega
        · have ih2 := ih2 (by omega)
          show znote 1050 (mcup D) _ _ = znote 1040 (mcup D) _ _
          rw [← ih2]
          unfold znote
          by_cases q : 0 < (ztick (mcup D) 0 0 (zS (zstill 1050 (mcup D) n y))).1
          · rw [if_pos (show 0 < (ztick (mcup D) 0 0 (zS (zstill 1050 (mcup D) n y))).1 ∧ (zList (zstill 1050 (mcup D) n y)).length < 1050 from ⟨q, by omega⟩), if_pos (show 0 < (ztick (mcup D) 0 0 (zS (zstill 1050 (mcup D) n y))).1 ∧ (zList (zstill 1050 (mcup D) n y)).length < 1040 from ⟨q, by omega⟩)]
          · rw [if_neg (show ¬ (0 < (ztick (mcup D) 0 0 (zS (zstill 1050 (mcup D) n y))).1 ∧ (zList (zstill 1050 (mcup D) n y)).length < 1050) from fun y => q y.1), if_neg (show ¬ (0 < (ztick (mcup D) 0 0 (zS (zstill 1050 (mcup D) n y))).1 ∧ (zList (zstill 1050 (mcup D) n y)).length < 1040) from fun y => q y.1)]
    obtain ⟨l1, l2⟩ := len2 i.toNat
    have l2 := l2 (by omega)
    rw [zrun_cap (cap' := 1040) (z := zstill 1050 (mcup D) i.toNat y) (by omega) (by omega), l2]
    have y2 : y = zrun 1040 (mcup D) (mhl D lw) (wkm D a) (fun _ => 0) (min at' (wTicks (wkm D a))).toNat 0 (zbeg (mcup D) (mst D) 1) := by
      rw [hy, hN]
      exact zrun_cap (by show (0 : Nat) + _ ≤ 1050; omega) (by show (0 : Nat) + (min at' (D 161 a)).toNat ≤ 1040; omega)
    have sim0 := SimZ.run (cap := 1040) (c := mcup D) (L := mhl D lw) (w := wkm D a) (t := fun _ => 0) hm.2.1.late.1 hm.2.1.late.2 (n := (min at' (wTicks (wkm D a))).toNat) (i := 0) (zbeg_sim (c := mcup D) (s := mst D) (seed := 1)) (Int.le_refl 0) (by show (0 : Int) + _ < _; omega)
    rw [← y2] at sim0
    obtain ⟨sim1, st1⟩ := zstill_sim (cap := 1040) (c := mcup D) sim0 (by omega) (by omega) (n := i.toNat) (by omega)
    have sim2 := SimZ.run (cap := 1040) (c := mcup D) (L := mhl D lw) (w := wkm D a) (t := fun _ => 0) hm.2.1.late.1 hm.2.1.late.2 (n := (wTicks (wkm D a) - at').toNat) (i := at') sim1 (by omega) (by omega)
    exact congrArg (fun o : Zo => o.1) sim2.2
  · have bH : MB H := hm.1.mr gH
    refine cI (C_mpassW (D := H) (pa := 0) (pc := 0) (st := -1) bH (by rw [hW.1]; exact t0'.1) hW) ?_
    rintro x2 m ⟨D6, rfl, f6, hx, nW, -⟩ v2 e2 v3 e3
    rw [w32_id (by omega) (by omega)] at e3
    subst e3
    rw [cH, hW.1] at hx nW
    have ex : (ztick (mcup D) 0 0 (zS (zstill 1050 (mcup D) i.toNat y))).1 = x2 := by rw [← hx]
    refine ih (v2, i + 1) _ ⟨D6, rfl, hF.trans (f6.mono (fun q j w => by unfold mwtF mpsF wtF at w; unfold mgF; omega)), by dsimp only; omega, by dsimp only; omega, ?_, ?_⟩ (by dsimp only; omega)
    · dsimp only
      rw [show (i + 1).toNat = i.toNat + 1 by omega]
      exact nW
    · dsimp only
      rw [show (i + 1).toNat = i.toNat + 1 by omega]
      show w32 (zSum (zstill 1050 (mcup D) i.toNat y) + (ztick (mcup D) 0 0 (zS (zstill 1050 (mcup D) i.toNat y))).1) = v2
      rw [hS, ex, e2]
end MRU
