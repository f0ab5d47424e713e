/-! ===== the model goes on ===== -/
def mgF (q : Nat) (j : Int) : Prop := (q = 152 ∧ (j = 5 ∨ j = 10 ∨ (18 ≤ j ∧ j ≤ 21) ∨ (36 ≤ j ∧ j ≤ 42) ∨ j = 44)) ∨ (155 ≤ q ∧ q ≤ 158) ∨ q = 176
def zGo (D : DD) (lw : Int → Option (List Int)) (a fr to tu : Int) (z : Zr) : Zr := zrun 1050 (mcup D) (lw (cSet (mcup D) 6)) (wkm D a) (fun i => bi (tu ≤ i)) (min to (D 161 a) - fr).toNat fr z
section MGO
variable {d n1 : Nat} {W : Nat → Nat} {D : DD} {lw : Int → Option (List Int)}
theorem wkm_fr {D' : DD} {F : Nat → Int → Prop} {a : Int} (f : Fr F D D') (n : ∀ q j, 161 ≤ q → q ≤ 166 → ¬ F q j) : wkm D' a = wkm D a := by
  have e : ∀ q, 161 ≤ q → q ≤ 166 → D' q = D q := fun q h0 h1 => f.obj (fun j => n q j h0 h1)
  unfold wkm
  simp only [e 161 (by decide) (by decide), e 162 (by decide) (by decide), e 163 (by decide) (by decide), e 164 (by decide) (by decide), e 165 (by decide) (by decide), e 166 (by decide) (by decide)]
theorem C_mgoOn {a fr to tu : Int} {z : Zr} (ha : 0 ≤ a ∧ a ≤ 3) (hw : 0 ≤ D 161 a ∧ D 161 a ≤ 1000) (hb : MB D) (hc : COK (mcup D)) (hz : Wat D z) (hk : ZOK z) (fr0 : 0 ≤ fr) (fr1 : fr ≤ 1000) (hsum : zSum z ≤ 1000000000) (htick : sTick (zS z) ≤ 1000000000) (hL : MLaw D lw) :
    Cl (d + 129) 0 0 mX10_goOn [vr 152, vi a, vi fr, vi to, vi tu] (D, rho n1 W) (KI (fun x m => ∃ (D' : DD) (V : Nat → Nat), m = (D', rho n1 V) ∧ V12 W V ∧ Fr mgF D D' ∧ Wat D' (zGo D lw a fr to tu z) ∧ zSum (zGo D lw a fr to tu z) = w32 (zSum z + x) ∧ w32 x = x ∧
      (sTick (zS z) = fr → D 152 41 = zstepAt (wkm D a) (zFirst z) → D' 152 41 = zstepAt (wkm D a) (zFirst (zGo D lw a fr to tu z))))) := by
  refine Cl_of mb_X10_goOn (Nat.le_of_ble_eq_true rfl) (sg_X10_goOn_0 ?_)
  have hlate : 0 ≤ cSet (mcup D) 5 ∧ cSet (mcup D) 5 ≤ 20 := hc.late
  have c5 : cSet (mcup D) 5 = D 153 5 := cut_in (n := 7) (k := 5) (f := D 153) (by decide) (by decide)
  have c6 : cSet (mcup D) 6 = D 153 6 := cut_in (n := 7) (k := 6) (f := D 153) (by decide) (by decide)
  obtain ⟨w0, w1⟩ := hw
  have hwt : wTicks (wkm D a) = D 161 a := rfl
  refine Wp.loop (σ := Int × Int) (fun σ => [some (vr 152), some (vi a), some (vi fr), some (vi to), some (vi tu), some (vi σ.1), some (vi σ.2), none, none, none])
    (fun σ μ => ∃ (H : DD) (V : Nat → Nat), μ = (H, rho n1 V) ∧ V12 W V ∧ Fr mgF D H ∧ fr ≤ σ.2 ∧ (σ.2 ≤ min to (D 161 a) ∨ σ.2 = fr) ∧ Wat H (zGo D lw a fr σ.2 tu z) ∧ zSum (zGo D lw a fr σ.2 tu z) = w32 (zSum z + σ.1) ∧ w32 σ.1 = σ.1 ∧
      (sTick (zS z) = fr → D 152 41 = zstepAt (wkm D a) (zFirst z) → H 152 41 = zstepAt (wkm D a) (zFirst (zGo D lw a fr σ.2 tu z))))
    (fun σ => (min to (D 161 a) - σ.2).toNat) ?_ (0, fr) _ ?_
  rotate_left
  · have e0 : zGo D lw a fr fr tu z = z := by
      unfold zGo
      rw [show (min fr (D 161 a) - fr).toNat = 0 by omega, zrun_0]
    refine ⟨D, W, rfl, V12.refl, Fr.refl, Int.le_refl _, Or.inr rfl, ?_, ?_, rfl, ?_⟩
    · dsimp only
      rw [e0]
      exact hz
    · dsimp only
      rw [e0, Int.add_zero, w32_id (by have := hk.2; omega) (by omega)]
    · dsimp only
      rw [e0]
      exact fun _ h => h
  rintro ⟨s, i⟩ μ ⟨H, V, rfl, hV, hF, f0, hi, hW, hS, hs, h41⟩ ih
  dsimp only at f0 hi hW hS hs h41 ih ⊢
  have h158 : H 161 = D 161 := hF.obj (fun j => by unfold mgF; omega)
  have done : min to (D 161 a) ≤ i → KI (fun x m => ∃ (D' : DD) (V : Nat → Nat), m = (D', rho n1 V) ∧ V12 W V ∧ Fr mgF D D' ∧ Wat D' (zGo D lw a fr to tu z) ∧ zSum (zGo D lw a fr to tu z) = w32 (zSum z + x) ∧ w32 x = x ∧
      (sTick (zS z) = fr → D 152 41 = zstepAt (wkm D a) (zFirst z) → D' 152 41 = zstepAt (wkm D a) (zFirst (zGo D lw a fr to tu z)))) (some (some (vi s))) (H, rho n1 V) := by
    intro c
    have e : zGo D lw a fr i tu z = zGo D lw a fr to tu z := by
      unfold zGo
      rw [show (min i (D 161 a) - fr).toNat = (min to (D 161 a) - fr).toNat by omega]
    rw [e] at hW hS h41
    exact ⟨_, rfl, H, V, rfl, hV, hF, hW, hS, hs, h41⟩
  refine sg_X10_goOn_6 ⟨fun c => done (by omega), fun c => ⟨rfl, Or.inl rfl, bnd (N := 4) rfl ha.1 (by omega), ?_⟩⟩
  rw [show mD (H, rho n1 V) (mR (H, rho n1 V) 152 22) a = D 161 a from congrFun h158 a]
  refine ⟨fun c2 => done (by omega), fun c2 v1 ev => ?_⟩
  have ilt : i < min to (D 161 a) := by omega
  rw [w32_id (x := 1000 * a) (by omega) (by omega), w32_id (by omega) (by omega)] at ev
  subst ev
  have bk : ∀ N : Nat, N = 4000 → (0 : Int) ≤ 1000 * a + i ∧ 1000 * a + i < (N : Int) := fun N hN => ⟨by omega, by omega⟩
  -- what the WALK tells at i
  obtain ⟨wi, hwi⟩ : ∃ wi, wi = i := ⟨_, rfl⟩
  have eal : ∀ G : DD, (∀ q, 161 ≤ q → q ≤ 166 → G q = D q) → G 163 (1000 * a + i) = wAl (wkm D a) i := fun G hG => by rw [hG 163 (by decide) (by decide)]; exact (cut_in (n := D 161 a) (k := i) (f := fun k => D 163 (1000 * a + k)) (by omega) (by omega)).symm
  have eac : ∀ G : DD, (∀ q, 161 ≤ q → q ≤ 166 → G q = D q) → G 164 (1000 * a + i) = wAc (wkm D a) i := fun G hG => by rw [hG 164 (by decide) (by decide)]; exact (cut_in (n := D 161 a) (k := i) (f := fun k => D 164 (1000 * a + k)) (by omega) (by omega)).symm
  have ewa : ∀ G : DD, (∀ q, 161 ≤ q → q ≤ 166 → G q = D q) → G 165 (1000 * a + i) = wWan (wkm D a) i := fun G hG => by rw [hG 165 (by decide) (by decide)]; exact (cut_in (n := D 161 a) (k := i) (f := fun k => D 165 (1000 * a + k)) (by omega) (by omega)).symm
  have est : ∀ G : DD, (∀ q, 161 ≤ q → q ≤ 166 → G q = D q) → G 166 (1000 * a + i) = wSt (wkm D a) i := fun G hG => by rw [hG 166 (by decide) (by decide)]; exact (cut_in (n := D 161 a) (k := i) (f := fun k => D 166 (1000 * a + k)) (by omega) (by omega)).symm
  have wH : ∀ q, 161 ≤ q → q ≤ 166 → H q = D q := fun q a b => hF.obj (fun j => by unfold mgF; omega)
  -- the run so far
  have hn : (min i (D 161 a) - fr).toNat ≤ 1000 := by omega
  obtain ⟨p0, p1, p2, p3⟩ := zrun_phys (cap := 1050) (L := lw (cSet (mcup D) 6)) (w := wkm D a) (t := fun i => bi (tu ≤ i)) hc (n := (min i (D 161 a) - fr).toNat) (i := fr) hk (by omega) (by omega)
  change ZOK (zGo D lw a fr i tu z) at p0
  change sTick (zS (zGo D lw a fr i tu z)) = _ at p3
  have step : zGo D lw a fr (i + 1) tu z = znote 1050 (mcup D) (zcarry (mcup D) (lw (cSet (mcup D) 6)) (wkm D a) i (bi (tu ≤ i)) (zS (zGo D lw a fr i tu z))) (zGo D lw a fr i tu z) := by
    unfold zGo
    rw [show (min (i + 1) (D 161 a) - fr).toNat = (min i (D 161 a) - fr).toNat + 1 by omega, zrun_l, show fr + ((min i (D 161 a) - fr).toNat : Int) = i by omega]
  have sH : mst H = zS (zGo D lw a fr i tu z) := hW.1
  have ctk := zcarry_tick (c := mcup D) (L := lw (cSet (mcup D) 6)) (w := wkm D a) (i := i) (t := bi (tu ≤ i)) (s := zS (zGo D lw a fr i tu z))
  generalize zGo D lw a fr i tu z = y at hW hS h41 p0 p3 step sH ctk
  have leaf : ∀ (G : DD) (U : Nat → Nat) (pa pc st : Int), V12 W U → Fr mgF D G → Wat G (zwans (wWan (wkm D a) i) (zS y), y.2) → G 152 41 = H 152 41 → st = wSt (wkm D a) i → ztick (mcup D) pa pc (mst G) = zcarry (mcup D) (lw (cSet (mcup D) 6)) (wkm D a) i (bi (tu ≤ i)) (zS y) →
      ∃ (mc1 ms1 : Nat) (K1 : Int → Mem → Prop), Cl (d + 128) mc1 ms1 mX10_passWatched [vr 152, vi pa, vi pc, vi st] (G, rho n1 U) (KI K1) ∧ mc1 ≤ 0 ∧ ms1 ≤ 0 ∧ (∀ x2 m2, K1 x2 m2 → ∀ v3, v3 = w32 (s + x2) → ∀ v4, v4 = w32 (i + 1) → Wp (d + 128 + 1) (0 - mc1) (0 - ms1) mX10_goOn 6 [some (vr 152), some (vi a), some (vi fr), some (vi to), some (vi tu), some (vi v3), some (vi v4), none, none, none] [] m2 (KI (fun x m => ∃ (D' : DD) (V : Nat → Nat), m = (D', rho n1 V) ∧ V12 W V ∧ Fr mgF D D' ∧ Wat D' (zGo D lw a fr to tu z) ∧ zSum (zGo D lw a fr to tu z) = w32 (zSum z + x) ∧ w32 x = x ∧
        (sTick (zS z) = fr → D 152 41 = zstepAt (wkm D a) (zFirst z) → D' 152 41 = zstepAt (wkm D a) (zFirst (zGo D lw a fr to tu z)))))) := by
    intro G U pa pc st hU hG gW g41 hst hcar
    have cG : mcup G = mcup D := mcup_fr hG (fun j x y => by unfold mgF; omega) (fun q j x y => by unfold mgF; omega)
    have bG : MB G := by
      unfold MB
      rw [hG 152 0 (by unfold mgF; omega)]
      exact hb
    have gs : mst G = zwans (wWan (wkm D a) i) (zS y) := gW.1
    have g40 : G 152 40 = zFirst y := gW.2.1
    refine cI (C_mpassW (D := G) (pa := pa) (pc := pc) (st := st) bG (by rw [gs]; exact zwans_SOK p0.1) gW) ?_
    rintro x2 m2 ⟨D', rfl, f2, hx, nW, n41⟩ v3 e3 v4 e4
    rw [cG, hcar] at hx nW
    rw [w32_id (by omega) (by omega)] at e4
    subst e4
    have nn : znote 1050 (mcup D) (zcarry (mcup D) (lw (cSet (mcup D) 6)) (wkm D a) i (bi (tu ≤ i)) (zS y)) (zwans (wWan (wkm D a) i) (zS y), y.2) = zGo D lw a fr (i + 1) tu z := by
      rw [step]
      exact znote_out rfl
    rw [nn] at nW
    have hx2 : (zcarry (mcup D) (lw (cSet (mcup D) 6)) (wkm D a) i (bi (tu ≤ i)) (zS y)).1 = x2 := by rw [← hx]
    have hF' : Fr mgF D D' := hG.trans (f2.mono (fun q j w => by unfold mwtF mpsF wtF at w; unfold mgF; omega))
    have hS' : zSum (zGo D lw a fr (i + 1) tu z) = w32 (zSum z + v3) := by
      rw [step]
      show w32 (zSum y + _) = _
      rw [hS, hx2, e3]
      unfold w32
      omega
    have h41' : sTick (zS z) = fr → D 152 41 = zstepAt (wkm D a) (zFirst z) → D' 152 41 = zstepAt (wkm D a) (zFirst (zGo D lw a fr (i + 1) tu z)) := by
      intro t1 t2
      have h41 := h41 t1 t2
      have ty : sTick (zS y) = i := by omega
      rw [n41, g40, g41, h41, step]
      show _ = zstepAt (wkm D a) (if 0 < (zcarry (mcup D) (lw (cSet (mcup D) 6)) (wkm D a) i (bi (tu ≤ i)) (zS y)).1 ∧ zFirst y = -1 then w32 (sTick (zcarry (mcup D) (lw (cSet (mcup D) 6)) (wkm D a) i (bi (tu ≤ i)) (zS y)).2 - 1) else zFirst y)
      rw [hx2, ctk, ty, show w32 (w32 (i + 1) - 1) = i by rw [w32_id (x := i + 1) (by omega) (by omega), w32_id (by omega) (by omega)]; omega]
      by_cases q : 0 < x2 ∧ zFirst y = -1
      · rw [if_pos q, if_pos q, hst]
        unfold zstepAt
        rw [if_pos ⟨by omega, by omega⟩]
      · rw [if_neg q, if_neg q]
    exact ih (v3, i + 1) _ ⟨D', U, rfl, hU, hF', by dsimp only; omega, Or.inl (by dsimp only; omega), nW, hS', by dsimp only; rw [e3]; exact w32_w32, h41'⟩ (by dsimp only; omega)
  -- behind the DRAW: the hand, the TICK
  have hand : ∀ (G : DD), Fr mgF D G → Wat G (zwans (wWan (wkm D a) i) (zS y), y.2) → G 152 41 = H 152 41 →
      ∃ (mc1 ms1 : Nat) (K1 : Int → Mem → Prop), Cl (d + 128) mc1 ms1 mX10_byHand [vr 152, vi (mD (G, rho n1 V) 153 6), vi (w32 (wAl (wkm D a) i + zwan (wWan (wkm D a) i) (zS y)))] (G, rho n1 V) (KI K1) ∧ mc1 ≤ 0 ∧ ms1 ≤ 0 ∧ (∀ x1 m1, K1 x1 m1 → ∃ (G' : DD) (U : Nat → Nat), m1 = (G', rho n1 U) ∧ V12 W U ∧ Fr mgF D G' ∧ Wat G' (zwans (wWan (wkm D a) i) (zS y), y.2) ∧ G' 152 41 = H 152 41 ∧ (∀ q, 161 ≤ q → q ≤ 166 → G' q = D q) ∧ mc1 = 0 ∧ ms1 = 0 ∧
        x1 = zgiven (mcup D) (lw (cSet (mcup D) 6)) (zwans (wWan (wkm D a) i) (zS y)) (w32 (wAl (wkm D a) i + zwan (wWan (wkm D a) i) (zS y)))) := by
    intro G hG gW g41
    have cG : mcup G = mcup D := mcup_fr hG (fun j x y => by unfold mgF; omega) (fun q j x y => by unfold mgF; omega)
    have bG : MB G := by
      unfold MB
      rw [hG 152 0 (by unfold mgF; omega)]
      exact hb
    have gs : mst G = zwans (wWan (wkm D a) i) (zS y) := gW.1
    have g6 : mD (G, rho n1 V) 153 6 = cSet (mcup D) 6 := by rw [c6]; exact hG 153 6 (by unfold mgF; omega)
    have g5 : G 153 5 = D 153 5 := hG 153 5 (by unfold mgF; omega)
    have gt : 0 ≤ G 152 5 := by
      have : G 152 5 = sTick (mst G) := rfl
      rw [this, gs, zwans_tick]
      exact p0.1.2.2
    rw [g6]
    refine cI (C_mbyHand (D := G) (lw := lw) bG gt (by rw [g5, ← c5]; exact hlate) (hL.fr hG (fun q j x y => by unfold mgF; omega))) ?_
    rintro x1 m1 ⟨hx, G', U, rfl, hU, f2⟩
    have hF2 : Fr mgF D G' := hG.trans (f2.mono (fun q j w => by unfold byF at w; unfold mgF; omega))
    refine ⟨G', U, rfl, hV.trans hU, hF2, ⟨?_, ?_, ?_, ?_, ?_, ?_⟩, ?_, fun q a b => hF2.obj (fun j => by unfold mgF; omega), rfl, rfl, ?_⟩
    · rw [mst_fr f2 (by unfold byF; omega) (by unfold byF; omega) (fun q j x y => by unfold byF; omega)]
      exact gW.1
    · rw [f2 152 40 (by unfold byF; omega)]
      exact gW.2.1
    · rw [f2 152 42 (by unfold byF; omega)]
      exact gW.2.2.1
    · rw [f2 152 44 (by unfold byF; omega), f2.obj (o := 176) (fun j => by unfold byF; omega)]
      exact gW.2.2.2.1
    · rw [f2 152 44 (by unfold byF; omega)]
      exact gW.2.2.2.2.1
    · rw [f2 152 44 (by unfold byF; omega)]
      exact gW.2.2.2.2.2
    · rw [f2 152 41 (by unfold byF; omega), g41]
    · rw [hx, cG, gs]
  have zc0 : ¬ tu ≤ i → ∀ p, p = zgiven (mcup D) (lw (cSet (mcup D) 6)) (zwans (wWan (wkm D a) i) (zS y)) (w32 (wAl (wkm D a) i + zwan (wWan (wkm D a) i) (zS y))) → ∀ q, q = zwans (wWan (wkm D a) i) (zS y) → ∀ r, r = wAc (wkm D a) i → ztick (mcup D) p r q = zcarry (mcup D) (lw (cSet (mcup D) 6)) (wkm D a) i (bi (tu ≤ i)) (zS y) := by
    rintro c p rfl q rfl r rfl
    unfold zcarry
    rw [bi_0 c, if_pos rfl]
  have zc1 : tu ≤ i → ∀ p, p = zgiven (mcup D) (lw (cSet (mcup D) 6)) (zwans (wWan (wkm D a) i) (zS y)) (w32 (wAl (wkm D a) i + zwan (wWan (wkm D a) i) (zS y))) → ∀ q, q = zwans (wWan (wkm D a) i) (zS y) → ∀ r, r = wAc (wkm D a) i → ztick (mcup D) r p q = zcarry (mcup D) (lw (cSet (mcup D) 6)) (wkm D a) i (bi (tu ≤ i)) (zS y) := by
    rintro c p rfl q rfl r rfl
    unfold zcarry
    rw [bi_1 c, if_neg (by decide)]
  refine ⟨Or.inl rfl, bk _ rfl, Or.inl rfl, bk _ rfl, ?_⟩
  have hal : mD (H, rho n1 V) (mR (H, rho n1 V) 152 24) (1000 * a + i) = wAl (wkm D a) i := eal H wH
  have hwa : mD (H, rho n1 V) (mR (H, rho n1 V) 152 26) (1000 * a + i) = wWan (wkm D a) i := ewa H wH
  rw [hwa, hal]
  refine ⟨fun cw v2 e2 => ?_, fun cw => ⟨bk _ rfl, ?_⟩⟩
  · have nz : zwan (wWan (wkm D a) i) (zS y) = 0 := if_neg (by omega)
    have ns : zwans (wWan (wkm D a) i) (zS y) = zS y := if_neg (by omega)
    have e2 : v2 = w32 (wAl (wkm D a) i + zwan (wWan (wkm D a) i) (zS y)) := by rw [nz]; exact e2
    subst e2
    obtain ⟨mc, ms, K, k1, k2, k3, k4⟩ := hand H hF (by rw [ns]; exact hW) rfl
    refine ⟨Or.inl rfl, bnd (N := 7) rfl (by decide) (by decide), mc, ms, K, k1, k2, k3, fun x1 m1 hK => ?_⟩
    obtain ⟨G', U, rfl, hU, g1, g2, g3, g4, rfl, rfl, g5⟩ := k4 x1 m1 hK
    refine ⟨fun ct => ⟨rfl, Or.inl rfl, bk _ rfl, Or.inl rfl, bk _ rfl, ?_⟩, fun ct => ⟨rfl, Or.inl rfl, bk _ rfl, Or.inl rfl, bk _ rfl, ?_⟩⟩
    · exact leaf G' U x1 _ _ hU g1 g2 g3 (est G' g4) (zc0 (by omega) x1 g5 _ g2.1 _ (eac G' g4))
    · exact leaf G' U _ x1 _ hU g1 g2 g3 (est G' g4) (zc1 (by omega) x1 g5 _ g2.1 _ (eac G' g4))
  · have nz : zwan (wWan (wkm D a) i) (zS y) = zdraw (zrand (sDrawn (zS y))) (wWan (wkm D a) i) := if_pos (by omega)
    have ns : zwans (wWan (wkm D a) i) (zS y) = (sTick (zS y), zrand (sDrawn (zS y)), (zS y).2.2) := if_pos (by omega)
    refine cI (C_mdraw (D := H) ?_) ?_
    · unfold w32
      omega
    rintro x4 m4 ⟨hx4, rfl⟩
    have h10 : H 152 10 = sDrawn (zS y) := by
      rw [← sH]
      rfl
    rw [h10] at hx4
    rw [h10]
    have fG : Fr (fun q j => q = 152 ∧ j = 10) H (wr H 152 10 (zrand (sDrawn (zS y)))) := Fr.refl.wr ⟨rfl, rfl⟩
    have hG : Fr mgF D (wr H 152 10 (zrand (sDrawn (zS y)))) := hF.trans (fG.mono (fun q j w => by unfold mgF; omega))
    have wG : ∀ q, 161 ≤ q → q ≤ 166 → wr H 152 10 (zrand (sDrawn (zS y))) q = D q := fun q a b => hG.obj (fun j => by unfold mgF; omega)
    have gW : Wat (wr H 152 10 (zrand (sDrawn (zS y)))) (zwans (wWan (wkm D a) i) (zS y), y.2) := by
      obtain ⟨y1, y2, y3, y4, y5, y6⟩ := hW
      refine ⟨?_, by rw [wr_j (by decide)]; exact y2, by rw [wr_j (by decide)]; exact y3, by rw [wr_o (by decide), wr_j (by decide)]; exact y4, by rw [wr_j (by decide)]; exact y5, by rw [wr_j (by decide)]; exact y6⟩
      show _ = zwans (wWan (wkm D a) i) (zS y)
      rw [ns, ← sH]
      unfold mst mrow
      rw [wr_at, wr_j (by decide), wr_o (by decide), wr_o (by decide), wr_o (by decide), wr_o (by decide)]
      rfl
    refine ⟨rfl, Or.inl rfl, bk _ rfl, fun v7 e7 => ?_⟩
    have e7 : v7 = w32 (wAl (wkm D a) i + zwan (wWan (wkm D a) i) (zS y)) := by
      rw [e7, nz, hx4]
      show w32 (_ + w32 (_ - wr H 152 10 (zrand (sDrawn (zS y))) 165 (1000 * a + i))) = _
      rw [ewa _ wG]
      rfl
    subst e7
    obtain ⟨mc, ms, K, k1, k2, k3, k4⟩ := hand _ hG gW (by rw [wr_j (by decide)])
    refine ⟨Or.inl rfl, bnd (N := 7) rfl (by decide) (by decide), mc, ms, K, k1, k2, k3, fun x1 m1 hK => ?_⟩
    obtain ⟨G', U, rfl, hU, g1, g2, g3, g4, rfl, rfl, g5⟩ := k4 x1 m1 hK
    refine ⟨fun ct => ⟨rfl, Or.inl rfl, bk _ rfl, Or.inl rfl, bk _ rfl, ?_⟩, fun ct => ⟨rfl, Or.inl rfl, bk _ rfl, Or.inl rfl, bk _ rfl, ?_⟩⟩
    · exact leaf G' U x1 _ _ hU g1 g2 g3 (est G' g4) (zc0 (by omega) x1 g5 _ g2.1 _ (eac G' g4))
    · exact leaf G' U _ x1 _ hU g1 g2 g3 (est G' g4) (zc1 (by omega) x1 g5 _ g2.1 _ (eac G' g4))
end MGO
