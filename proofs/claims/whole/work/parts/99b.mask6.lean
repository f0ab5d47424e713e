/-! ===== the model is asked, 6: worst, stop ===== -/
section MA6
variable {d n1 : Nat} {W V : Nat → Nat} {D E : DD} {lw : Int → Option (List Int)} {c : Cv}
/-- behind begin alone (the state was put before), without a new R -/
theorem zbeg_of {D1 D2 : DD} (h2 : mst D2 = zfresh (mcup D1) (mst D1)) : mst D2 = zS (zbeg (mcup D1) (mst D1) (sDrawn (mst D1))) := h2
theorem C_mworst {push : Int} (hm : MRun D lw) : Cl (d + 130) 0 0 mX10_worst [vr 152, vi push] (D, rho n1 W) (KI (Was n1 D W (S_worst (mcup D) (mhl D lw) push))) := by
  refine Cl_of mb_X10_worst (Nat.le_of_ble_eq_true rfl) (sg_X10_worst_0 ⟨rfl, fun m1 e1 => ?_⟩)
  obtain ⟨E, hE⟩ : ∃ E, E = wr D 152 15 0 := ⟨_, rfl⟩
  have e1 : m1 = (E, rho n1 W) := by rw [hE]; exact e1
  subst e1
  have h0 : MAc D W E W (mcup D) := MAc.beg hE
  refine cB C_in (fun hp => yN ⟨rfl, Or.inl rfl, bnd (N := 7) rfl (by decide) (by decide), fun v1 ev => ⟨rfl, bnd (N := 7) rfl (by decide) (by decide), fun m3 e3 => ?_⟩⟩) (fun hp => nN ⟨_, rfl, Was_no h0 (by unfold S_worst; rw [if_neg hp]) (by unfold S_worst; rw [if_neg hp])⟩)
  have ev : v1 = cSet (mcup D) 4 := by
    rw [ev, ← h0.2.2.2.1]
    exact (cut_in (n := 7) (f := E 153) (k := 4) (by decide) (by decide)).symm
  subst ev
  have e3 : m3 = (wr E 153 4 100, rho n1 W) := e3
  subst e3
  have h1 := h0.set (k := 4) (v := 100) (by decide) (by decide)
  have cc : COK (zSet (mcup D) 4 100) := COK_set hm.2.1 (Or.inr (Or.inl ⟨rfl, by decide, by decide⟩))
  have hS : S_worst (mcup D) (mhl D lw) push = ((zworst (mcup D) (mhl D lw) push).1, some [(zworst (mcup D) (mhl D lw) push).2]) := if_pos hp
  unfold zworst at hS
  obtain ⟨c', hc'⟩ : ∃ c', c' = zSet (mcup D) 4 100 := ⟨_, rfl⟩
  rw [← hc'] at h1 cc hS
  have hL6 : lw (cSet c' 6) = mhl D lw := by
    rw [hc', zSet_ne (by decide)]
    rfl
  obtain ⟨B, hB⟩ : ∃ B, B = wr E 153 4 100 := ⟨_, rfl⟩
  rw [← hB] at h1
  have hmB := h1.mr hm cc
  refine cV (C_mputBy (D := wr E 153 4 100) (i := 3) (by decide) (by decide)) ?_
  rw [← hB]
  rintro m ⟨D1, rfl, f1, k1⟩
  have fB1 : Fr mrF B D1 := f1.mono (fun q j z => by unfold pkF at z; unfold mrF; omega)
  have s1 : mst D1 = mst B := mst_fr f1 (by unfold pkF; omega) (by unfold pkF; omega) (fun q j x y => by unfold pkF; omega)
  have cB' : mcup B = c' := h1.2.2.2.1
  have hbnd : ∀ k : Nat, k ≤ 38 → 0 ≤ oGsl (zOn c' (mhl D lw) (wSteps' w0 0 push (k + 2) 0 20) 1) := fun k _ => zrun_gsl (z := zbeg0 c' 1) (Int.le_refl 0)
  refine Wp.loop (σ := (Int × Int) × Int) (fun σ => [some (vr 152), some (vi push), some (vi σ.1.1), some (vi σ.1.2), some (vi (cSet (mcup D) 4)), some (vi σ.2), none, none])
    (fun σ μ => ∃ (H : DD) (V : Nat → Nat), μ = (H, rho n1 V) ∧ V12 W V ∧ Fr mrF B H ∧ mkv H 177 (105 * 3) = mst B ∧ SOK (mst H) ∧ 2 ≤ σ.2 ∧ σ.2 ≤ 41 ∧ Zmx (fun k => oGsl (zOn c' (mhl D lw) (wSteps' w0 0 push (k + 2) 0 20) 1)) (fun k => k + 2) (σ.2 - 2).toNat σ.1.1 σ.1.2)
    (fun σ => (41 - σ.2).toNat) ?_ ((-1, 0), 2) _ ⟨D1, W, rfl, V12.refl, fB1, k1, by rw [s1]; exact hmB.2.2.1, by decide, by decide, Or.inl ⟨rfl, rfl, rfl⟩⟩
  clear f1 k1 fB1 s1
  rintro ⟨⟨fd, ls⟩, n⟩ μ ⟨H, V, rfl, hV, hF, hk, hok, n0, n1', hz⟩ ih
  dsimp only at n0 n1' hz ih ⊢
  refine sg_X10_worst_46 ⟨fun c1 => ⟨rfl, cV (C_mbringBack (D := H) (i := 3) (by decide) (by decide)) ?_⟩, fun c1 => ⟨rfl, cV (C_mbegin (D := H)) ?_⟩⟩
  · rintro m ⟨G, rfl, f6, h6⟩
    have hG : MAc D W G V c' := h1.run hV (hF.trans (f6.mono (fun q j z => by unfold bbF at z; unfold mrF mgF; omega))) (by rw [h6, hk])
    refine ⟨rfl, rfl, bnd (N := 7) rfl (by decide) (by decide), fun m2 e2 m3 e3 => ?_⟩
    have e2 : m2 = (wr G 153 4 (cSet (mcup D) 4), rho n1 V) := e2
    subst e2
    have hK : MAc D W (wr G 153 4 (cSet (mcup D) 4)) V (mcup D) := by
      rw [hc'] at hG
      exact (hG.set (k := 4) (v := cSet (mcup D) 4) (by decide) (by decide)).eq zSet_back
    have e3 : m3 = (wr (wr G 153 4 (cSet (mcup D) 4)) 152 14 0, rho n1 V) := e3
    subst e3
    obtain ⟨q1, q2⟩ := hz.is (by omega)
    rw [show (n - 2).toNat = 39 by omega] at q1 q2
    refine m_tell1 hK (S := S_worst (mcup D) (mhl D lw) push) (x := fd) ?_ ?_ (fun m hm' => ⟨_, rfl, hm'⟩)
    · rw [hS, ← q1]
    · rw [hS, ← q2]
  rintro m ⟨G, rfl, f2, h2⟩
  have cH : mcup H = c' := by rw [mcup_mr hF, cB']
  rw [cH] at h2
  have hG2 : Fr mrF B G := hF.trans (f2.mono (fun q j z => by unfold mbF at z; unfold mrF mgF; omega))
  have kG : mkv G 177 (105 * 3) = mst B := by
    rw [← hk]
    exact mkv_ext (fun o a b => f2 177 _ (by unfold mbF; omega))
  obtain ⟨w, hw⟩ : ∃ w, w = wSteps' w0 0 push n 0 20 := ⟨_, rfl⟩
  obtain ⟨z0, hz0⟩ : ∃ z0, z0 = zbeg c' (mst H) (sDrawn (mst H)) := ⟨_, rfl⟩
  have zk : ZOK z0 := by rw [hz0]; exact zbeg_ok cc
  have zsum : zSum z0 = 0 := by rw [hz0]; rfl
  have ztk : sTick (zS z0) = 0 := by rw [hz0]; rfl
  have hwt : wTicks w = n * 20 := by
    rw [hw]
    show 0 + n * 20 = n * 20
    omega
  have hwan : ∀ i, ¬ 0 < wWan w i := fun i => by rw [hw]; exact wSteps'_wan i
  have hval : oGsl (zout (zrun 1040 c' (mhl D lw) w (fun _ => 0) (20 * n).toNat 0 z0)) = oGsl (zOn c' (mhl D lw) w 1) := by
    rw [hz0, zbeg_run cc (by omega), zOut_dr hwan, show (20 * n).toNat = (wTicks w).toNat by omega]
    rfl
  have w20 : w32 (20 * n) = 20 * n := w32_id (by omega) (by omega)
  refine Wp.loop (σ := Int × Int) (fun σ => [some (vr 152), some (vi push), some (vi fd), some (vi ls), some (vi (cSet (mcup D) 4)), some (vi n), some (vi σ.1), some (vi σ.2)])
    (fun σ μ => ∃ (H : DD) (V : Nat → Nat), μ = (H, rho n1 V) ∧ V12 W V ∧ Fr mrF B H ∧ mkv H 177 (105 * 3) = mst B ∧ 0 ≤ σ.2 ∧ σ.2 ≤ 20 * n ∧ mst H = zS (zrun 1040 c' (mhl D lw) w (fun _ => 0) σ.2.toNat 0 z0) ∧ σ.1 = zGsl (zrun 1040 c' (mhl D lw) w (fun _ => 0) σ.2.toNat 0 z0))
    (fun σ => (20 * n - σ.2).toNat) ?_ (0, 0) _ ⟨G, V, rfl, hV, hG2, kG, Int.le_refl _, by dsimp only; omega, by rw [h2, hz0]; rfl, by rw [hz0]; rfl⟩
  clear hV hF hk hok h2 hG2 kG f2 cH hz0
  rintro ⟨gr, t⟩ μ ⟨H, V, rfl, hV, hF, hk, t0, t1, hs, hg⟩ ih2
  dsimp only at t0 t1 hs hg ih2 ⊢
  obtain ⟨p0, p1, p2, p3⟩ := zrun_phys (cap := 1040) (L := mhl D lw) (w := w) (t := fun _ => 0) cc (n := t.toNat) (i := 0) zk (by omega) (by omega)
  have stepz : zrun 1040 c' (mhl D lw) w (fun _ => 0) (t + 1).toNat 0 z0 = znote 1040 c' (zcarry c' (mhl D lw) w t 0 (zS (zrun 1040 c' (mhl D lw) w (fun _ => 0) t.toNat 0 z0))) (zrun 1040 c' (mhl D lw) w (fun _ => 0) t.toNat 0 z0) := by
    rw [show (t + 1).toNat = t.toNat + 1 by omega, zrun_l, show (0 : Int) + ((t.toNat : Nat) : Int) = t by omega]
  obtain ⟨y, hy⟩ : ∃ y, y = zrun 1040 c' (mhl D lw) w (fun _ => 0) t.toNat 0 z0 := ⟨_, rfl⟩
  rw [← hy] at hs hg p0 p2 p3 stepz
  have cH : mcup H = c' := by rw [mcup_mr hF, cB']
  have hmH : MRun H lw := hmB.mr hF (by rw [hs]; exact p0.1)
  have fin : w32 (20 * n) ≤ t → gr = oGsl (zOn c' (mhl D lw) w 1) := fun c2 => by
    rw [hg, hy, ← hval, show (20 * n).toNat = t.toNat by omega]
    rfl
  have ek : (((n - 2).toNat : Nat) : Int) + 2 = n := by omega
  have ef : oGsl (zOn c' (mhl D lw) (wSteps' w0 0 push ((((n - 2).toNat : Nat) : Int) + 2) 0 20) 1) = oGsl (zOn c' (mhl D lw) w 1) := by rw [ek, hw]
  have hb := hbnd (n - 2).toNat (by omega)
  rw [ef] at hb
  have nx : (n + 1 - 2).toNat = (n - 2).toNat + 1 := by omega
  have wn1 : w32 (n + 1) = n + 1 := w32_id (by omega) (by omega)
  have next : ∀ fd' ls', Zmx (fun k => oGsl (zOn c' (mhl D lw) (wSteps' w0 0 push (k + 2) 0 20) 1)) (fun k => k + 2) ((n - 2).toNat + 1) fd' ls' → ∀ v, v = w32 (n + 1) → Wp (d + 130) 0 0 mX10_worst 46 [some (vr 152), some (vi push), some (vi fd'), some (vi ls'), some (vi (cSet (mcup D) 4)), some (vi v), none, none] [] (H, rho n1 V) (KI (Was n1 D W (S_worst (mcup D) (mhl D lw) push))) := by
    intro fd' ls' hz' v ev
    rw [wn1] at ev
    subst ev
    refine ih ((fd', ls'), n + 1) _ ⟨H, V, rfl, hV, hF, hk, by rw [hs]; exact p0.1, by dsimp only; omega, by dsimp only; omega, ?_⟩ (by dsimp only; omega)
    dsimp only
    rw [nx]
    exact hz'
  refine sg_X10_worst_63 ⟨fun c2 => ⟨fun c3 => next n gr (hz.first c3 (by rw [fin c2]; exact ef) ek (by rw [fin c2]; exact hb) (by omega)), fun c3 => ⟨fun c4 => next n gr (hz.more c3 (by rw [fin c2]; exact ef) ek c4 (by omega)), fun c4 => next fd ls (hz.keep c3 (by rw [fin c2]; exact ef) c4)⟩⟩, fun c2 => ⟨rfl, Or.inl rfl, bnd (N := 7) rfl (by decide) (by decide), by omega, ?_⟩⟩
  rw [w20] at c2
  have h6 : mD (H, rho n1 V) (mR (H, rho n1 V) 152 3) 6 = cSet c' 6 := by
    rw [← cH]
    exact (cut_in (n := 7) (f := H 153) (k := 6) (by decide) (by decide)).symm
  rw [h6]
  have n2 : w32 (n.tdiv 2) = n / 2 := by rw [Int.tdiv_eq_ediv_of_nonneg (by omega), w32_id (by omega) (by omega)]
  have tm : t.tmod n = t % n := Int.tmod_eq_emod_of_nonneg t0
  rw [n2, tm]
  have htw : t < wTicks w := by omega
  have wal : wAl w t = if t % n < n / 2 then push else w32 (-push) := by
    rw [hw]
    show ext (fun _ => 0) 0 (0 + n * 20) (stAl n push) t = _
    unfold ext
    rw [if_pos ⟨t0, by omega⟩, Int.sub_zero]
    rfl
  have wac : wAc w t = 0 := by
    rw [hw]
    show ext (fun _ => 0) 0 (0 + n * 20) (stAc n 0 0) t = _
    unfold ext
    rw [if_pos ⟨t0, by omega⟩]
    unfold stAc
    split
    · rfl
    · rfl
  have hcar : ∀ p, p = wAl w t → zcarry c' (mhl D lw) w t 0 (zS y) = ztick c' (zgiven c' (mhl D lw) (zS y) p) 0 (zS y) := fun p hpe => by
    have e1 : zwans (wWan w t) (zS y) = zS y := if_neg (hwan t)
    have e2 : zwan (wWan w t) (zS y) = 0 := if_neg (hwan t)
    have e3 : w32 (wAl w t + 0) = wAl w t := by
      rw [Int.add_zero, wal]
      split
      · exact w32_id (by omega) (by omega)
      · exact w32_w32
    unfold zcarry
    rw [if_pos rfl, e1, e2, e3, wac, hpe]
  -- the hand, the TICK, the SLOPE
  have leaf : ∀ p, p = wAl w t → ∃ (mc1 ms1 : Nat) (K1 : Int → Mem → Prop), Cl (d + 129) mc1 ms1 mX10_byHand [vr 152, vi (cSet c' 6), vi p] (H, rho n1 V) (KI K1) ∧ mc1 ≤ 0 ∧ ms1 ≤ 0 ∧ (∀ x1 m1, K1 x1 m1 → mK m1 152 = 11 ∧ ∃ (mc2 ms2 : Nat) (K2 : Int → Mem → Prop), Cl (d + 129) mc2 ms2 mX10_pass [vr 152, vi x1, vi 0] m1 (KI K2) ∧ mc2 ≤ 0 - mc1 ∧ ms2 ≤ 0 - ms1 ∧ (∀ x2 m2, K2 x2 m2 → mK m2 152 = 11 ∧ ∃ (mc3 ms3 : Nat) (K3 : Int → Mem → Prop), Cl (d + 129) mc3 ms3 mX10_slope [vr 152] m2 (KI K3) ∧ mc3 ≤ 0 - mc1 - mc2 ∧ ms3 ≤ 0 - ms1 - ms2 ∧ (∀ x3 m3, K3 x3 m3 → ∃ (mc4 ms4 : Nat) (K4 : Int → Mem → Prop), Cl (d + 129) mc4 ms4 mJ9_abs_0f7a4 [vi x3] m3 (KI K4) ∧ mc4 ≤ 0 - mc1 - mc2 - mc3 ∧ ms4 ≤ 0 - ms1 - ms2 - ms3 ∧ (∀ x4 m4, K4 x4 m4 → ∃ (mc5 ms5 : Nat) (K5 : Int → Mem → Prop), Cl (d + 129) mc5 ms5 mJ9_max_7cf53 [vi gr, vi x4] m4 (KI K5) ∧ mc5 ≤ 0 - mc1 - mc2 - mc3 - mc4 ∧ ms5 ≤ 0 - ms1 - ms2 - ms3 - ms4 ∧ (∀ x5 m5, K5 x5 m5 → ∀ v4, v4 = w32 (t + 1) → Wp (d + 129 + 1) (0 - mc1 - mc2 - mc3 - mc4 - mc5) (0 - ms1 - ms2 - ms3 - ms4 - ms5) mX10_worst 63 [some (vr 152), some (vi push), some (vi fd), some (vi ls), some (vi (cSet (mcup D) 4)), some (vi n), some (vi x5), some (vi v4)] [] m5 (KI (Was n1 D W (S_worst (mcup D) (mhl D lw) push)))))))) := by
    intro p hpe
    have clate : 0 ≤ cSet c' 5 ∧ cSet c' 5 ≤ 20 := cc.late
    have c5 : H 153 5 = cSet c' 5 := by
      rw [← cH]
      exact (cut_in (n := 7) (f := H 153) (k := 5) (by decide) (by decide)).symm
    refine cI (C_mbyHand (D := H) (lw := lw) (l := cSet c' 6) (push := p) hmH.1 hmH.2.2.1.2.2 (by rw [c5]; exact clate) hmH.2.2.2.1) ?_
    rintro x1 m ⟨hx1, G, U, rfl, hU, f2⟩
    rw [cH, hL6, hs] at hx1
    have sG : mst G = zS y := by rw [mst_fr f2 (by unfold byF; omega) (by unfold byF; omega) (fun q j x y => by unfold byF; omega), hs]
    have cG : mcup G = c' := by rw [mcup_fr f2 (fun j x y => by unfold byF; omega) (fun q j x y => by unfold byF; omega), cH]
    have a0 : G 152 0 = H 152 0 := f2 152 0 (by unfold byF; omega)
    refine ⟨rfl, cI (C_mpass (D := G) (pa := x1) (pc := 0) (by rw [a0]; exact hmH.1.1) (by rw [a0]; exact hmH.1.2) (by rw [sG]; exact p0.1)) ?_⟩
    rintro x2 m ⟨G2, rfl, f3, h3⟩
    rw [cG, sG, hx1, ← hcar p hpe] at h3
    have a2 : G2 152 0 = H 152 0 := by rw [f3 152 0 (by unfold mpsF; omega), a0]
    have cG2 : mcup G2 = c' := by rw [mcup_fr f3 (fun j x y => by unfold mpsF; omega) (fun q j x y => by unfold mpsF; omega), cG]
    have s2 : mst G2 = (zcarry c' (mhl D lw) w t 0 (zS y)).2 := congrArg Prod.snd h3
    refine ⟨rfl, cP (C_mslope (D := G2) (by rw [a2]; exact hmH.1.1) (by rw [a2]; exact hmH.1.2)) (cP C_absz (cP C_max fun v4 e4 => ?_))⟩
    rw [w32_id (by omega) (by omega)] at e4
    subst e4
    refine ih2 (_, t + 1) _ ⟨G2, U, rfl, hV.trans hU, (hF.trans (f2.mono (fun q j z => by unfold byF at z; unfold mrF mgF; omega))).trans (f3.mono (fun q j z => by unfold mpsF at z; unfold mrF mgF; omega)), ?_, by dsimp only; omega, by dsimp only; omega, by rw [stepz]; exact s2, ?_⟩ (by dsimp only; omega)
    · rw [← hk]
      exact mkv_ext (fun o a b => by rw [f3 177 _ (by unfold mpsF; omega), f2 177 _ (by unfold byF; omega)])
    · dsimp only
      rw [stepz, cG2, s2, hg]
      rfl
  refine ⟨fun c3 => leaf (w32 (-push)) ?_, fun c3 => leaf push ?_⟩
  · rw [wal, if_neg (by omega)]
  · rw [wal, if_pos (by omega)]
theorem C_mstop {speed : Int} (hm : MRun D lw) : Cl (d + 5) 0 0 mX10_stop [vr 152, vi speed] (D, rho n1 W) (KI (Was n1 D W (S_stop (mcup D) speed))) := by
  refine Cl_of mb_X10_stop (Nat.le_of_ble_eq_true rfl) (sg_X10_stop_0 ⟨rfl, fun m1 e1 => ?_⟩)
  obtain ⟨E, hE⟩ : ∃ E, E = wr D 152 15 0 := ⟨_, rfl⟩
  have e1 : m1 = (E, rho n1 W) := by rw [hE]; exact e1
  subst e1
  have h0 : MAc D W E W (mcup D) := MAc.beg hE
  refine cB C_in (fun hp => yN ?_) (fun hp => nN ⟨_, rfl, Was_no h0 (by unfold S_stop; rw [if_neg hp]) (by unfold S_stop; rw [if_neg hp])⟩)
  have hS : S_stop (mcup D) speed = zstop (mcup D) speed 200 1 := if_pos hp
  generalize S_stop (mcup D) speed = S at hS ⊢
  refine Wp.loop (σ := Int) (fun n => [some (vr 152), some (vi speed), some (vi n), none, none])
    (fun n μ => ∃ H : DD, μ = (H, rho n1 W) ∧ MAc D W H W (mcup D) ∧ 1 ≤ n ∧ n ≤ 201 ∧ S = zstop (mcup D) speed (201 - n).toNat n)
    (fun n => (201 - n).toNat) ?_ 1 _ ⟨E, rfl, h0, by decide, by decide, hS⟩
  rintro n μ ⟨H, rfl, h, n0, n1', hz⟩ ih
  refine sg_X10_stop_20 ⟨fun c1 => ⟨_, rfl, ?_⟩, fun c1 => ⟨by omega, fun c2 => ⟨rfl, cV (C_mputBy (D := H) (i := 3) (by decide) (by decide)) ?_⟩, fun c2 v ev => ?_⟩⟩
  · have hz : S = (-2, none) := by
      rw [hz, show (201 - n).toNat = 0 by omega]
      rfl
    exact Was_no h (by rw [hz]) (by rw [hz])
  · have hzs : S = if w32 ((w32 (w32 (speed + n) - 1)).tdiv n) ≤ 500 ∧ oSum (zOn (mcup D) none (wBrake speed n) 1) = 0 then (n, some [oHigh (zOn (mcup D) none (wBrake speed n) 1)]) else zstop (mcup D) speed (201 - (n + 1)).toNat (n + 1) := by
      rw [hz, show (201 - n).toNat = (201 - (n + 1)).toNat + 1 by omega]
      rfl
    rintro m ⟨D1, rfl, f1, k1⟩
    refine ⟨rfl, cV (C_mbegin (D := D1)) ?_⟩
    rintro m ⟨D2, rfl, f2, h2⟩
    refine ⟨rfl, cV (C_mwatch (D := D2)) ?_⟩
    rintro m ⟨D4, rfl, f4, w40, w41, w42, w44⟩
    have c1' : mcup D1 = mcup D := by rw [mcup_fr f1 (fun j x y => by unfold pkF; omega) (fun q j x y => by unfold pkF; omega)]; exact h.2.2.2.1
    rw [c1'] at h2
    obtain ⟨r, hr⟩ : ∃ r, r = sDrawn (mst D1) := ⟨_, rfl⟩
    obtain ⟨z0, hz0⟩ : ∃ z0, z0 = zbeg (mcup D) (mst D1) r := ⟨_, rfl⟩
    have s4 : mst D4 = zS z0 := by
      rw [mst_fr f4 (by unfold wtF; omega) (by unfold wtF; omega) (fun q j x y => by unfold wtF; omega), h2, hz0, hr]
      rfl
    have W4 : Wat D4 z0 := by
      refine ⟨s4, ?_, ?_, ?_, by omega, by omega⟩
      · rw [w40, hz0]; rfl
      · rw [w42, hz0]; rfl
      · rw [w44, hz0]; exact lst_0 (by decide)
    have g4 : Fr mrF H D4 := ((f1.mono (fun q j z => by unfold pkF at z; unfold mrF; omega)).trans (f2.mono (fun q j z => by unfold mbF at z; unfold mrF mgF; omega))).trans (f4.mono (fun q j z => by unfold wtF at z; unfold mrF mgF; omega))
    have k4 : mkv D4 177 (105 * 3) = mst H := by
      rw [← k1]
      exact mkv_ext (fun o a b => by rw [f4 177 _ (by unfold wtF; omega), f2 177 _ (by unfold mbF; omega)])
    have zk : ZOK z0 := by rw [hz0]; exact zbeg_ok hm.2.1
    have zsum : zSum z0 = 0 := by rw [hz0]; rfl
    have ztk : sTick (zS z0) = 0 := by rw [hz0]; rfl
    obtain ⟨w, hw⟩ : ∃ w, w = wBrake speed n := ⟨_, rfl⟩
    have hwt : wTicks w = n + 100 := by
      rw [hw]
      show 0 + (n + 100) = n + 100
      omega
    have hwan : ∀ i, ¬ 0 < wWan w i := fun i => by rw [hw]; exact wBrake_wan i
    have hval : zout (zrun 1050 (mcup D) none w (fun _ => 0) (n + 100).toNat 0 z0) = zOn (mcup D) none w 1 := by
      rw [hz0, zgo_out hm.2.1 (by omega), zOut_dr hwan, show (n + 100).toNat = (wTicks w).toNat by omega]
      rfl
    rw [← hw] at hzs
    have w100 : w32 (n + 100) = n + 100 := w32_id (by omega) (by omega)
    have hmH := h.mr hm hm.2.1
    have cH : mcup H = mcup D := h.2.2.2.1
    refine Wp.loop (σ := Int × Int) (fun σ => [some (vr 152), some (vi speed), some (vi n), some (vi σ.1), some (vi σ.2)])
      (fun σ μ => ∃ G : DD, μ = (G, rho n1 W) ∧ Fr mrF H G ∧ mkv G 177 (105 * 3) = mst H ∧ 0 ≤ σ.2 ∧ σ.2 ≤ n + 100 ∧ Wat G (zrun 1050 (mcup D) none w (fun _ => 0) σ.2.toNat 0 z0) ∧ σ.1 = zSum (zrun 1050 (mcup D) none w (fun _ => 0) σ.2.toNat 0 z0))
      (fun σ => (n + 100 - σ.2).toNat) ?_ (0, 0) _ ⟨D4, rfl, g4, k4, Int.le_refl _, by dsimp only; omega, W4, zsum.symm⟩
    clear f1 k1 f2 h2 f4 w40 w41 w42 w44 c1' s4 W4 g4 k4 hr hz0
    rintro ⟨v, t⟩ μ ⟨G, rfl, hF, hk, t0, t1, hW, hv⟩ ih2
    dsimp only at t0 t1 hW hv ih2 ⊢
    obtain ⟨p0, p1, p2, p3⟩ := zrun_phys (cap := 1050) (L := none) (w := w) (t := fun _ => 0) hm.2.1 (n := t.toNat) (i := 0) zk (by omega) (by omega)
    -- the end of a run
    have s116 : (n + 100 ≤ t ∨ ¬ v = 0) → Wp (d + 5) 0 0 mX10_stop 116 [some (vr 152), some (vi speed), some (vi n), some (vi v), some (vi t)] [] (G, rho n1 W) (KI (Was n1 D W S)) := by
      intro hend
      obtain ⟨a0, a1, a2, a3⟩ := zrun_phys (cap := 1050) (L := none) (w := w) (t := fun _ => 0) hm.2.1 (n := (n + 100 - t).toNat) (i := t) p0 (by omega) (by omega)
      have eadd : zrun 1050 (mcup D) none w (fun _ => 0) (n + 100).toNat 0 z0 = zrun 1050 (mcup D) none w (fun _ => 0) (n + 100 - t).toNat t (zrun 1050 (mcup D) none w (fun _ => 0) t.toNat 0 z0) := by
        rw [show (n + 100).toNat = t.toNat + (n + 100 - t).toNat by omega, zrun_add, show (0 : Int) + ((t.toNat : Nat) : Int) = t by omega]
      rw [← eadd] at a1
      have hos : oSum (zOn (mcup D) none w 1) = zSum (zrun 1050 (mcup D) none w (fun _ => 0) (n + 100).toNat 0 z0) := by rw [← hval]; rfl
      have vnn : 0 ≤ v := by rw [hv]; exact p0.2
      refine sg_X10_stop_116 ⟨rfl, cV (C_mbringBack (D := G) (i := 3) (by decide) (by decide)) ?_⟩
      rintro m ⟨K, rfl, f7, h7⟩
      have hK : MAc D W K W (mcup D) := h.run V12.refl (hF.trans (f7.mono (fun q j z => by unfold bbF at z; unfold mrF mgF; omega))) (by rw [h7, hk])
      refine ⟨fun c3 => ⟨rfl, fun m2 e2 => ?_⟩, fun c3 v' ev' => ?_⟩
      · have et : t = n + 100 := by omega
        have e42 : wr K 152 14 0 152 42 = oHigh (zOn (mcup D) none w 1) := by
          rw [wr_j (by decide), f7 152 42 (by unfold bbF; omega), hW.2.2.1, ← hval, show t.toNat = (n + 100).toNat by omega]
          rfl
        have h0' : oSum (zOn (mcup D) none w 1) = 0 := by
          rw [hos, show (n + 100).toNat = t.toNat by omega, ← hv]
          omega
        rw [if_pos ⟨c2, h0'⟩] at hzs
        have e2 : m2 = (wr K 152 14 0, rho n1 W) := e2
        subst e2
        rw [show mD (wr K 152 14 0, rho n1 W) 152 42 = oHigh (zOn (mcup D) none w 1) from e42]
        exact m_tell1 hK (S := S) (x := n) (by rw [hzs]) (by rw [hzs]) (fun m hm' => ⟨_, rfl, hm'⟩)
      · rw [w32_id (by omega) (by omega)] at ev'
        subst ev'
        rw [if_neg (fun q => by have := q.2; omega)] at hzs
        exact ih (n + 1) _ ⟨K, rfl, hK, by omega, by omega, hzs⟩ (by omega)
    have cG : mcup G = mcup D := by rw [mcup_mr hF, cH]
    have bG := hmH.1.mr hF
    have stepz : t < n + 100 → zrun 1050 (mcup D) none w (fun _ => 0) (t + 1).toNat 0 z0 = znote 1050 (mcup D) (zcarry (mcup D) none w t 0 (zS (zrun 1050 (mcup D) none w (fun _ => 0) t.toNat 0 z0))) (zrun 1050 (mcup D) none w (fun _ => 0) t.toNat 0 z0) := fun _ => by
      rw [show (t + 1).toNat = t.toNat + 1 by omega, zrun_l, show (0 : Int) + ((t.toNat : Nat) : Int) = t by omega]
    obtain ⟨y, hy⟩ : ∃ y, y = zrun 1050 (mcup D) none w (fun _ => 0) t.toNat 0 z0 := ⟨_, rfl⟩
    rw [← hy] at hW hv p0 p2 p3 stepz
    have leaf : t < n + 100 → ∀ p, p = brAl speed n t → ∃ (mc1 ms1 : Nat) (K1 : Int → Mem → Prop), Cl (d + 4) mc1 ms1 mX10_passWatched [vr 152, vi p, vi 0, vi (-1)] (G, rho n1 W) (KI K1) ∧ mc1 ≤ 0 ∧ ms1 ≤ 0 ∧ (∀ x1 m1, K1 x1 m1 → ∀ v1, v1 = w32 (v + x1) → ∀ v2, v2 = w32 (t + 1) → Wp (d + 4 + 1) (0 - mc1) (0 - ms1) mX10_stop 61 [some (vr 152), some (vi speed), some (vi n), some (vi v1), some (vi v2)] [] m1 (KI (Was n1 D W S))) := by
      intro tl p hpe
      have wal : wAl w t = p := by
        rw [hw, hpe]
        show ext (fun _ => 0) 0 (0 + (n + 100)) (brAl speed n) t = _
        unfold ext
        rw [if_pos ⟨t0, by omega⟩, Int.sub_zero]
      have wac : wAc w t = 0 := by
        rw [hw]
        show ext (fun _ => 0) 0 (0 + (n + 100)) (fun _ => 0) t = _
        unfold ext
        split <;> rfl
      have pw : w32 (p + 0) = p := by
        rw [Int.add_zero, hpe]
        unfold brAl
        split
        · rfl
        · exact w32_w32
      have hcar : zcarry (mcup D) none w t 0 (zS y) = ztick (mcup D) p 0 (zS y) := by
        have e1 : zwans (wWan w t) (zS y) = zS y := if_neg (hwan t)
        have e2 : zwan (wWan w t) (zS y) = 0 := if_neg (hwan t)
        unfold zcarry
        rw [if_pos rfl, e1, e2, wal, wac, pw]
        rfl
      refine cI (C_mpassW (D := G) (pa := p) (pc := 0) (st := -1) bG (by rw [hW.1]; exact p0.1) hW) ?_
      rintro x1 m ⟨K, rfl, f5, hx, nW, -⟩ v1 e1 v2 e2
      rw [cG, hW.1, ← hcar] at hx nW
      rw [← stepz tl] at nW
      rw [w32_id (by omega) (by omega)] at e2
      subst e2
      have hx1 : x1 = (zcarry (mcup D) none w t 0 (zS y)).1 := congrArg Prod.fst hx
      refine ih2 (v1, t + 1) _ ⟨K, rfl, hF.trans (f5.mono (fun q j z => by unfold mwtF mpsF wtF at z; unfold mrF mgF; omega)), ?_, by dsimp only; omega, by dsimp only; omega, nW, ?_⟩ (by dsimp only; omega)
      · rw [← hk]
        exact mkv_ext (fun o a b => f5 177 _ (by unfold mwtF mpsF wtF; omega))
      · dsimp only
        rw [stepz tl, e1, hv, hx1]
        rfl
    refine sg_X10_stop_61 ⟨fun c3 => s116 (Or.inl (by omega)), fun c3 => ⟨fun c4 => s116 (Or.inr c4), fun c4 => ⟨fun c5 => ⟨by omega, by omega, fun c6 => ⟨rfl, leaf (by omega) _ ?_⟩, fun c6 => ⟨rfl, leaf (by omega) _ ?_⟩⟩, fun c5 => ⟨rfl, leaf (by omega) _ ?_⟩⟩⟩⟩
    · unfold brAl
      rw [if_neg (by omega), if_pos c6]
    · unfold brAl
      rw [if_neg (by omega), if_neg c6]
    · unfold brAl
      rw [if_pos (by omega)]
  · rw [w32_id (by omega) (by omega)] at ev
    subst ev
    refine ih (n + 1) _ ⟨H, rfl, h, by omega, by omega, ?_⟩ (by omega)
    rw [hz, show (201 - n).toNat = (201 - (n + 1)).toNat + 1 by omega]
    exact if_neg (fun q => c2 q.1)
end MA6
