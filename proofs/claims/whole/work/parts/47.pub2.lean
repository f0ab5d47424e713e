/-! ===== what the class's calls answer, 2: the least of many ===== -/
theorem zmn_s {f ix : Nat → Int} {k : Int} (h : 0 ≤ k) : zmn f ix (k + 1).toNat = if f k.toNat < (zmn f ix k.toNat).2 then (ix k.toNat, f k.toNat) else zmn f ix k.toNat := by
  rw [show (k + 1).toNat = k.toNat + 1 by omega]
  rfl
section PUB2
variable {d n1 : Nat} {W : Nat → Nat} {D : DD}
theorem C_best {a gap : Int} (hm : MP D W) : Cl (d + 7) 0 0 mX9_best [vr 4, vi a, vi gap] (D, rho n1 W) (KI (Wh n1 D W (S_best (cupv D 5) (hcode D W) (wsv D W) a gap))) := by
  have hc : 1 ≤ D 5 0 ∧ D 5 0 ≤ 19 := ⟨hm.1.1, hm.1.2.1⟩
  refine Cl_of mb_X9_best (Nat.le_of_ble_eq_true rfl) (sg_X9_best_0 (cB C_isWalk (fun hy => yE ⟨rfl, cB (C_isGap hc.1 hc.2) (fun hz => yN ?_) (fun hz => nN ⟨_, rfl, Wh_no AF.refl ?_ ?_⟩)⟩) (fun hy => nE ⟨_, rfl, Wh_no AF.refl ?_ ?_⟩)))
  rotate_left
  · unfold S_best
    rw [if_neg (fun q => hz q.2)]
  · unfold S_best
    rw [if_neg (fun q => hz q.2)]
  · unfold S_best
    rw [if_neg (fun q => hy q.1)]
  · unfold S_best
    rw [if_neg (fun q => hy q.1)]
  refine Wp.loop (σ := Int × Int × Int) (fun z => [some (vr 4), some (vi a), some (vi gap), some (vi z.1), some (vi z.2.1), some (vi z.2.2), none])
    (fun z μ => ∃ (E : DD) (V : Nat → Nat), μ = (E, rho n1 V) ∧ AF D W E V ∧ -1 ≤ z.2.2 ∧ z.2.2 ≤ 100 ∧ (z.1, z.2.1) = zmn (fun k => oHigh (zOn (zHole (cupv D 5) gap (100 - k)) (hcode D W) (wsv D W a) 1)) (fun k => 100 - k) (100 - z.2.2).toNat)
    (fun z => (z.2.2 + 1).toNat) ?_ (-1, 2147483647, 100) (D, rho n1 W) ⟨D, W, rfl, AF.refl, by decide, by decide, rfl⟩
  rintro ⟨b, l, k⟩ μ ⟨E, V, rfl, hA, k0, k1, hv⟩ ih
  dsimp only at k0 k1 hv ih ⊢
  refine sg_X9_best_28 ⟨fun c => ⟨rfl, cV C_tell1 ?_⟩, fun c => ⟨rfl, cR (C_asItIs (hA.mp hm)) ?_⟩⟩
  · rintro m ⟨E4, rfl, g1, g2, g3⟩
    have e : (b, l) = zbest (cupv D 5) (hcode D W) (wsv D W a) gap := by rw [hv, show (100 - k).toNat = 101 by omega]; rfl
    refine ⟨_, rfl, Wh_tell hA g1 g2 g3 ?_ ?_ rfl⟩ <;> unfold S_best <;> rw [if_pos ⟨hy, hz⟩, ← e]
  · rintro b9 m1 ⟨rfl, G, U, rfl, hT⟩
    have hT := TRc.back hA hm hT.c
    rw [hA.cup] at hT
    refine ⟨rfl, rfl, rfl, bnd (N := 20) rfl hz.1 (by omega), fun m2 e2 => ?_⟩
    have hT2 : TRc D W (wr G 33 gap k) U (zHole (cupv D 5) gap k) := hT.wr (by decide) (by decide) (by rw [cupv_hole hz.1 (by omega), hT.2.1])
    have e2 : m2 = (wr G 33 gap k, rho n1 U) := e2
    subst e2
    generalize wr G 33 gap k = H at hT2
    obtain ⟨p1, p2, p3, p4⟩ := hT2.preA hm (COK_hole hm.1 (by omega) (by omega)) hy.1 hy.2
    rw [wref hT2.1 hy.1 hy.2]
    refine ⟨rfl, rfl, bnd (N := 4) rfl hy.1 (by omega), cI (C_spiltOn p1) ?_⟩
    rintro x m3 ⟨H2, rfl, h2, ho, -⟩
    rw [p2, p3, p4] at ho
    have hT3 := hT2.run h2
    obtain ⟨q1, q2, q3, q4, q5⟩ := trv_sum ho
    have hs := zmn_s (f := fun k => oHigh (zOn (zHole (cupv D 5) gap (100 - k)) (hcode D W) (wsv D W a) 1)) (ix := fun k => 100 - k) (k := 100 - k) (by omega)
    rw [← hv] at hs
    dsimp only at hs
    rw [show (100 : Int) - ((100 - k).toNat : Int) = k by omega] at hs
    refine ⟨rfl, fun c2 v e => ?_, fun c2 v2 e2 v e => ?_⟩
    · rw [w32_id (by omega) (by omega)] at e
      subst e
      change l ≤ H2 30 6 at c2
      refine ih (b, l, k + -1) _ ⟨H2, U, rfl, hT3.1, by dsimp only; omega, by dsimp only; omega, ?_⟩ (by dsimp only; omega)
      dsimp only
      rw [show (100 - (k + -1)).toNat = (100 - k + 1).toNat by omega, hs, if_neg (by omega)]
    · rw [w32_id (by omega) (by omega)] at e
      subst e e2
      change ¬ l ≤ H2 30 6 at c2
      refine ih (k, H2 30 6, k + -1) _ ⟨H2, U, rfl, hT3.1, by dsimp only; omega, by dsimp only; omega, ?_⟩ (by dsimp only; omega)
      dsimp only
      rw [show (100 - (k + -1)).toNat = (100 - k + 1).toNat by omega, hs, if_pos (by omega), q3]
theorem C_two {a : Int} (hm : MP D W) : Cl (d + 7) 0 0 mX9_two [vr 4, vi a] (D, rho n1 W) (KI (Wh n1 D W (S_two (cupv D 5) (hcode D W) (wsv D W) a))) := by
  refine Cl_of mb_X9_two (Nat.le_of_ble_eq_true rfl) (sg_X9_two_0 (cB C_isWalk (fun hy => yN ⟨rfl, cR (C_asItIs hm) ?_⟩) (fun hy => nN ⟨_, rfl, Wh_no AF.refl ?_ ?_⟩)))
  rotate_left
  · unfold S_two
    rw [if_neg hy]
  · unfold S_two
    rw [if_neg hy]
  rintro b8 m0 ⟨rfl, G0, U0, rfl, hT0⟩
  have hT0 := hT0.c
  obtain ⟨p10, p20, p30, p40⟩ := hT0.preA hm hm.1 hy.1 hy.2
  rw [wref hT0.1 hy.1 hy.2]
  refine ⟨rfl, rfl, bnd (N := 4) rfl hy.1 (by omega), rfl, cI (C_spiltOn p10) ?_⟩
  rintro x0 m1 ⟨H0, rfl, h0, -, hx0⟩
  rw [p20, p30, p40] at hx0
  have hT1 := hT0.run h0
  refine Wp.loop (σ := Int × Int × Int) (fun z => [some (vr 4), some (vi a), some (vi x0), some (vi z.1), some (vi z.2.1), some (vi z.2.2), none])
    (fun z μ => ∃ (E : DD) (V : Nat → Nat), μ = (E, rho n1 V) ∧ AF D W E V ∧ 0 ≤ z.2.2 ∧ z.2.2 ≤ 41 ∧ (z.1, z.2.1) = zmn (fun k => oSum (zFrom (cupv D 5) (hcode D W) (wsv D W a) k)) (fun k => k) z.2.2.toNat)
    (fun z => (41 - z.2.2).toNat) ?_ (-1, 2147483647, 0) _ ⟨H0, U0, rfl, hT1.1, by decide, by decide, rfl⟩
  rintro ⟨b, l, k⟩ μ ⟨E, V, rfl, hA, k0, k1, hv⟩ ih
  dsimp only at k0 k1 hv ih ⊢
  refine sg_X9_two_34 ⟨fun c => ⟨rfl, cV C_tell2 ?_⟩, fun c => ⟨rfl, cR (C_asItIs (hA.mp hm)) ?_⟩⟩
  · rintro m ⟨E4, rfl, g1, g2, g3⟩
    have e : (b, l) = ztwo (cupv D 5) (hcode D W) (wsv D W a) := by rw [hv, show k.toNat = 41 by omega]; rfl
    refine ⟨_, rfl, Wh_tell hA g1 g2 g3 ?_ ?_ rfl⟩ <;> unfold S_two <;> rw [if_pos hy, ← e]
    rw [hx0]
  · rintro b9 m1 ⟨rfl, G, U, rfl, hT⟩
    have hT := TRc.back hA hm hT.c
    rw [hA.cup] at hT
    obtain ⟨p1, p2, p3, p4⟩ := hT.preA hm hm.1 hy.1 hy.2
    rw [wref hT.1 hy.1 hy.2]
    refine ⟨rfl, rfl, bnd (N := 4) rfl hy.1 (by omega), rfl, cI (C_spiltFrom p1 k0) ?_⟩
    rintro x m3 ⟨H2, rfl, h2, hx⟩
    rw [p2, p3, p4] at hx
    have hT3 := hT.run h2
    have hs := zmn_s (f := (fun k => oSum (zFrom (cupv D 5) (hcode D W) (wsv D W a) k))) (ix := (fun k => k)) (k := k) k0
    rw [← hv] at hs
    dsimp only at hs
    rw [show ((k.toNat : Nat) : Int) = k by omega] at hs
    refine ⟨fun c2 v e => ?_, fun c2 v e => ?_⟩
    · rw [w32_id (by omega) (by omega)] at e
      subst e
      refine ih (b, l, k + 1) _ ⟨H2, U, rfl, hT3.1, by dsimp only; omega, by dsimp only; omega, ?_⟩ (by dsimp only; omega)
      dsimp only
      rw [hs, if_neg (by omega)]
    · rw [w32_id (by omega) (by omega)] at e
      subst e
      refine ih (k, x, k + 1) _ ⟨H2, U, rfl, hT3.1, by dsimp only; omega, by dsimp only; omega, ?_⟩ (by dsimp only; omega)
      dsimp only
      rw [hs, if_pos (by omega), hx]
theorem C_pause {a t : Int} (hm : MP D W) : Cl (d + 7) 0 0 mX9_pause [vr 4, vi a, vi t] (D, rho n1 W) (KI (Wh n1 D W (S_pause (cupv D 5) (hcode D W) (wsv D W) a t))) := by
  refine Cl_of mb_X9_pause (Nat.le_of_ble_eq_true rfl) (sg_X9_pause_0 (cB C_isWalk (fun hy => yE (cB C_isIn (fun hz => yN ?_) (fun hz => nN ⟨_, rfl, Wh_no AF.refl ?_ ?_⟩))) (fun hy => nE ⟨_, rfl, Wh_no AF.refl ?_ ?_⟩)))
  rotate_left
  · unfold S_pause
    rw [if_neg (fun q => hz q.2)]
  · unfold S_pause
    rw [if_neg (fun q => hz q.2)]
  · unfold S_pause
    rw [if_neg (fun q => hy q.1)]
  · unfold S_pause
    rw [if_neg (fun q => hy q.1)]
  refine Wp.loop (σ := Int × Int × Int) (fun z => [some (vr 4), some (vi a), some (vi t), some (vi z.1), some (vi z.2.1), some (vi z.2.2), none])
    (fun z μ => ∃ (E : DD) (V : Nat → Nat), μ = (E, rho n1 V) ∧ AF D W E V ∧ 0 ≤ z.2.2 ∧ z.2.2 ≤ 41 ∧ (z.1, z.2.1) = zmn (fun k => oSum (zPause (cupv D 5) (hcode D W) (wsv D W a) t k)) (fun k => k) z.2.2.toNat)
    (fun z => (41 - z.2.2).toNat) ?_ (-1, 2147483647, 0) _ ⟨D, W, rfl, AF.refl, by decide, by decide, rfl⟩
  rintro ⟨b, l, k⟩ μ ⟨E, V, rfl, hA, k0, k1, hv⟩ ih
  dsimp only at k0 k1 hv ih ⊢
  refine sg_X9_pause_30 ⟨fun c => ⟨rfl, cV C_tell1 ?_⟩, fun c => ⟨rfl, cR (C_asItIs (hA.mp hm)) ?_⟩⟩
  · rintro m ⟨E4, rfl, g1, g2, g3⟩
    have e : (b, l) = zpauses (cupv D 5) (hcode D W) (wsv D W a) t := by rw [hv, show k.toNat = 41 by omega]; rfl
    refine ⟨_, rfl, Wh_tell hA g1 g2 g3 ?_ ?_ rfl⟩ <;> unfold S_pause <;> rw [if_pos ⟨hy, hz⟩, ← e]
  · rintro b9 m1 ⟨rfl, G, U, rfl, hT⟩
    have hT := TRc.back hA hm hT.c
    rw [hA.cup] at hT
    obtain ⟨p1, p2, p3, p4⟩ := hT.preA hm hm.1 hy.1 hy.2
    rw [wref hT.1 hy.1 hy.2]
    refine ⟨rfl, rfl, bnd (N := 4) rfl hy.1 (by omega), rfl, cI (C_spiltWithPause p1 hz.1 k0 (by omega)) ?_⟩
    rintro x m3 ⟨H2, rfl, h2, hx⟩
    rw [p2, p3, p4] at hx
    have hT3 := hT.run h2
    have hs := zmn_s (f := (fun k => oSum (zPause (cupv D 5) (hcode D W) (wsv D W a) t k))) (ix := (fun k => k)) (k := k) k0
    rw [← hv] at hs
    dsimp only at hs
    rw [show ((k.toNat : Nat) : Int) = k by omega] at hs
    refine ⟨fun c2 v e => ?_, fun c2 v e => ?_⟩
    · rw [w32_id (by omega) (by omega)] at e
      subst e
      refine ih (b, l, k + 1) _ ⟨H2, U, rfl, hT3.1, by dsimp only; omega, by dsimp only; omega, ?_⟩ (by dsimp only; omega)
      dsimp only
      rw [hs, if_neg (by omega)]
    · rw [w32_id (by omega) (by omega)] at e
      subst e
      refine ih (k, x, k + 1) _ ⟨H2, U, rfl, hT3.1, by dsimp only; omega, by dsimp only; omega, ?_⟩ (by dsimp only; omega)
      dsimp only
      rw [hs, if_pos (by omega), hx]
theorem C_door {a : Int} (hm : MP D W) : Cl (d + 7) 0 0 mX9_door [vr 4, vi a] (D, rho n1 W) (KI (Wh n1 D W (S_door (cupv D 5) (hcode D W) (wsv D W) a))) := by
  refine Cl_of mb_X9_door (Nat.le_of_ble_eq_true rfl) (sg_X9_door_0 (cB C_isWalk (fun hy => yN ⟨rfl, rfl, bnd (N := 4) rfl hy.1 (by omega), ?_⟩) (fun hy => nN ⟨_, rfl, Wh_no AF.refl ?_ ?_⟩)))
  rotate_left
  · unfold S_door
    rw [if_neg hy]
  · unfold S_door
    rw [if_neg hy]
  rw [wref AF.refl hy.1 hy.2]
  refine ⟨(sWk_of (n1 := n1) (W := W) (hm.2.1 a.toNat (by omega))).1, fun v1 e1 => ?_⟩
  have e1 : v1 = wTicks (wsv D W a) := e1
  obtain ⟨t0, t1⟩ := hm.2.2.2 a.toNat (by omega)
  change 0 ≤ wTicks (wsv D W a) at t0
  change wTicks (wsv D W a) ≤ 1000 at t1
  rw [← e1] at t0 t1
  refine Wp.loop (σ := Int × Int × Int) (fun z => [some (vr 4), some (vi a), some (vi z.1), some (vi z.2.1), some (vi v1), some (vi (10 * z.2.2)), none, none])
    (fun z μ => ∃ (E : DD) (V : Nat → Nat), μ = (E, rho n1 V) ∧ AF D W E V ∧ 0 ≤ z.2.2 ∧ z.2.2 ≤ (v1 + 19) / 10 ∧ (z.1, z.2.1) = zmn (fun k => oSum (zTurn (cupv D 5) (hcode D W) (wsv D W a) (min (10 * k) v1))) (fun k => min (10 * k) v1) z.2.2.toNat)
    (fun z => ((v1 + 19) / 10 - z.2.2).toNat) ?_ (-1, 2147483647, 0) _ ⟨D, W, rfl, AF.refl, by decide, by dsimp only; omega, rfl⟩
  rintro ⟨b, l, k⟩ μ ⟨E, V, rfl, hA, k0, k1, hv⟩ ih
  dsimp only at k0 k1 hv ih ⊢
  have w10 : w32 (v1 + 10) = v1 + 10 := w32_id (by omega) (by omega)
  refine sg_X9_door_29 ⟨fun c => ⟨rfl, cV C_tell1 ?_⟩, fun c => cP C_min ⟨rfl, cR (C_asItIs (hA.mp hm)) ?_⟩⟩
  · rintro m ⟨E4, rfl, g1, g2, g3⟩
    rw [w10] at c
    have e : (b, l) = zdoor (cupv D 5) (hcode D W) (wsv D W a) := by
      rw [hv, show k.toNat = ((v1 + 19) / 10).toNat by omega, e1]
      rfl
    refine ⟨_, rfl, Wh_tell hA g1 g2 g3 ?_ ?_ rfl⟩ <;> unfold S_door <;> rw [if_pos hy, ← e]
  · rintro b9 m1 ⟨rfl, G, U, rfl, hT⟩
    rw [w10] at c
    have hT := TRc.back hA hm hT.c
    rw [hA.cup] at hT
    obtain ⟨p1, p2, p3, p4⟩ := hT.preA hm hm.1 hy.1 hy.2
    rw [wref hT.1 hy.1 hy.2]
    refine ⟨rfl, rfl, bnd (N := 4) rfl hy.1 (by omega), rfl, cI (C_spiltWithTurn p1 (by omega)) ?_⟩
    rintro x m3 ⟨H2, rfl, h2, hx⟩
    rw [p2, p3, p4] at hx
    have hT3 := hT.run h2
    have hs := zmn_s (f := fun k => oSum (zTurn (cupv D 5) (hcode D W) (wsv D W a) (min (10 * k) v1))) (ix := fun k => min (10 * k) v1) (k := k) k0
    rw [← hv] at hs
    dsimp only at hs
    rw [show ((k.toNat : Nat) : Int) = k by omega] at hs
    refine ⟨fun c2 v e => ?_, fun c2 v e => ?_⟩
    · rw [w32_id (by omega) (by omega), show 10 * k + 10 = 10 * (k + 1) by omega] at e
      subst e
      refine ih (b, l, k + 1) _ ⟨H2, U, rfl, hT3.1, by dsimp only; omega, by dsimp only; omega, ?_⟩ (by dsimp only; omega)
      dsimp only
      rw [hs, if_neg (by omega)]
    · rw [w32_id (by omega) (by omega), show 10 * k + 10 = 10 * (k + 1) by omega] at e
      subst e
      refine ih (_, x, k + 1) _ ⟨H2, U, rfl, hT3.1, by dsimp only; omega, by dsimp only; omega, ?_⟩ (by dsimp only; omega)
      dsimp only
      rw [hs, if_pos (by omega), hx]
theorem C_turn {a t : Int} (hm : MP D W) : Cl (d + 7) 0 0 mX9_turn [vr 4, vi a, vi t] (D, rho n1 W) (KI (Wh n1 D W (S_turn (cupv D 5) (hcode D W) (wsv D W) a t))) := by
  refine Cl_of mb_X9_turn (Nat.le_of_ble_eq_true rfl) (sg_X9_turn_0 (cB C_isWalk (fun hy => yE (cB C_isIn (fun hz => yN ⟨rfl, cR (C_asItIs hm) ?_⟩) (fun hz => nN ⟨_, rfl, Wh_no AF.refl ?_ ?_⟩))) (fun hy => nE ⟨_, rfl, Wh_no AF.refl ?_ ?_⟩)))
  rotate_left
  · unfold S_turn
    rw [if_neg (fun q => hz q.2)]
  · unfold S_turn
    rw [if_neg (fun q => hz q.2)]
  · unfold S_turn
    rw [if_neg (fun q => hy q.1)]
  · unfold S_turn
    rw [if_neg (fun q => hy q.1)]
  rintro b8 m0 ⟨rfl, G0, U0, rfl, hT0⟩
  have hT0 := hT0.c
  obtain ⟨p10, p20, p30, p40⟩ := hT0.preA hm hm.1 hy.1 hy.2
  rw [wref hT0.1 hy.1 hy.2]
  refine ⟨rfl, rfl, bnd (N := 4) rfl hy.1 (by omega), rfl, cI (C_spiltOn p10) ?_⟩
  rintro x0 m1 ⟨H0, rfl, h0, -, hx0⟩
  rw [p20, p30, p40] at hx0
  have hT1 := hT0.run h0
  refine ⟨rfl, cV C_tell1 ?_⟩
  rintro m2 ⟨E4, rfl, g1, g2, g3⟩
  have hP : PF D W E4 U0 := ⟨hT1.1.pf.1.trans (g1.mono (fun _ _ z => Or.inr z)), hT1.1.2⟩
  have hmE : MP E4 U0 := by
    have h1 := hT1.1.mp hm
    refine ⟨by rw [cupv_fr g1 (fun q j a b => by unfold tlF; omega)]; exact h1.1, h1.2.1, h1.2.2.1, fun i hi => ?_⟩
    have hw := h1.2.1 i hi
    rw [g1 (U0 i) 4 (by unfold tlF; unfold walkId at hw; omega)]
    exact h1.2.2.2 i hi
  refine ⟨rfl, cR (C_asItIs hmE) ?_⟩
  rintro b9 m3 ⟨rfl, G, U, rfl, hT⟩
  have hT := hT.c
  obtain ⟨p1, p2, p3, p4⟩ := hT.preA hmE hmE.1 hy.1 hy.2
  rw [wref hT.1 hy.1 hy.2]
  refine ⟨rfl, rfl, bnd (N := 4) rfl hy.1 (by omega), rfl, cI (C_spiltWithTurn p1 hz.1) ?_⟩
  rintro x m4 ⟨H2, rfl, h2, hx⟩
  rw [p2, p3, p4] at hx
  have hT3 := hT.run h2
  have c1 : cupv E4 5 = cupv D 5 := by rw [cupv_fr g1 (fun q j a b => by unfold tlF; omega), hT1.1.cup]
  have c2 : hcode E4 U0 = hcode D W := by
    have e : hcode E4 U0 = hcode H0 U0 := by
      unfold hcode
      rw [cupv_fr g1 (fun q j a b => by unfold tlF; omega)]
      have e2 : ∀ l, tlaw E4 U0 l = tlaw H0 U0 l := fun l => by
        unfold tlaw
        by_cases q : 0 ≤ l ∧ l ≤ 2
        · have hl := hmE.2.2.1 (5 + l.toNat) (by omega) (by omega)
          rw [g1 (U0 (5 + l.toNat)) 2 (by unfold tlF; unfold lawId at hl; omega)]
        · rw [if_neg (fun z => q z.1), if_neg (fun z => q z.1)]
      rw [e2]
      rcases tlaw_id (hT1.1.mp hm) (l := cSet (cupv H0 5) 6) with q | q
      · unfold lawO
        rw [if_pos q, if_pos q]
      · exact lawO_fr g1 (fun j => by unfold tlF; unfold lawId at q; omega)
    rw [e]
    unfold hcode
    rw [hT1.1.cup, hT1.1.tl hm]
    exact hT1.1.lw (tlaw_id hm)
  have c3 : wsv E4 U0 a = wsv D W a := by
    obtain ⟨w1, w2, w3⟩ := hT1.1.walk hm (i := a.toNat) (by omega)
    have hw := hm.2.1 a.toNat (by omega)
    unfold wsv
    rw [w1, wkv_fr g1 (fun q j a b => by unfold tlF; unfold walkId at hw; omega), w2]
  rw [c1, c2, c3] at hx
  refine ⟨_, rfl, H2, U, rfl, ⟨hP.1.trans (hT3.1.pf.1), fun i hi => (hT3.1.2 i hi).trans (hT1.1.2 i hi)⟩, ?_, ?_⟩
  · unfold S_turn
    rw [if_pos ⟨hy, hz⟩, hx]
  · rw [hT3.1.tv]
    unfold S_turn
    rw [if_pos ⟨hy, hz⟩]
    show (toldv E4, E4 4 16) = _
    rw [g3, g2, hx0]
    rfl
end PUB2
