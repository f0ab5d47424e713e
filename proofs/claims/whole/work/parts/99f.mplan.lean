/-! ===== the model plans ===== -/
theorem zrun_SS {cap cap' : Nat} {c : Cv} {L : Option (List Int)} {w : Wv} {t : Int → Int} : ∀ {n : Nat} {i : Int} {z z' : Zr}, zS z = zS z' → zSum z = zSum z' → zS (zrun cap c L w t n i z) = zS (zrun cap' c L w t n i z') ∧ zSum (zrun cap c L w t n i z) = zSum (zrun cap' c L w t n i z')
  | 0, _, _, _, h, g => ⟨h, g⟩
  | n + 1, i, z, z', h, g => by
    rw [zrun_s, zrun_s]
    refine zrun_SS ?_ ?_
    · show (zcarry c L w i (t i) (zS z)).2 = (zcarry c L w i (t i) (zS z')).2
      rw [h]
    · show w32 (zSum z + (zcarry c L w i (t i) (zS z)).1) = w32 (zSum z' + (zcarry c L w i (t i) (zS z')).1)
      rw [h, g]
def mplF (k : Int) (q : Nat) (j : Int) : Prop := mgF q j ∨ (q = 152 ∧ (j = 46 ∨ j = 52 ∨ j = 53)) ∨ (q = 177 ∧ 315 ≤ j) ∨ (q = 181 ∧ k ≤ j) ∨ q = 182 ∨ (q = 183 ∧ 105 * k ≤ j)
/-- the best so far -/
def PB (D : DD) (b : Bst) : Prop := (D 152 52 = -1 ∧ b = (2147483647, [])) ∨ (1 ≤ D 152 52 ∧ D 152 52 ≤ 4 ∧ b = (D 152 53, lst (D 182) (D 152 52)))
/-- what holds of the model where it plans on -/
def PLN (D : DD) (lw : Int → Option (List Int)) (k : Int) : Prop := MRun D lw ∧ (∀ j, 0 ≤ j → j < 4 → 0 ≤ D 180 j ∧ D 180 j ≤ 99) ∧ (0 ≤ D 152 44 ∧ D 152 44 ≤ 1050) ∧ sTick (mst D) ≤ 1000 * k
section MPL
variable {d n1 : Nat} {W V : Nat → Nat} {D E : DD} {lw : Int → Option (List Int)} {c : Cv}
theorem PB.fr {D' : DD} {F : Nat → Int → Prop} {b : Bst} (h : PB D b) (f : Fr F D D') (n1 : ¬ F 152 52) (n2 : ¬ F 152 53) (n3 : ∀ j, ¬ F 182 j) : PB D' b := by
  unfold PB
  rw [f 152 52 n1, f 152 53 n2, f.obj (o := 182) n3]
  exact h
theorem C_mkeepPlan {k : Int} (k0 : 0 ≤ k) (k1 : k ≤ 3) : Cl d 0 0 mX10_keepPlan [vr 152, vi k] (D, rho n1 W) (KI (fun x m => x = k ∧ ∃ D', m = (D', rho n1 W) ∧ Fr (fun q j => q = 183 ∧ 105 * k ≤ j ∧ j < 105 * k + 105) D D' ∧ mkv D' 183 (105 * k) = mkv D 177 (105 * 3))) := by
  refine Cl_of mb_X10_keepPlan (Nat.le_of_ble_eq_true rfl) (sg_X10_keepPlan_0 ?_)
  refine Wp.loop (σ := Int) (fun i => [some (vr 152), some (vi k), some (vi i)])
    (fun i μ => ∃ H : DD, μ = (H, rho n1 W) ∧ 0 ≤ i ∧ i ≤ 105 ∧ Fr (fun q j => q = 183 ∧ 105 * k ≤ j ∧ j < 105 * k + 105) D H ∧ ∀ o, 0 ≤ o → o < i → H 183 (105 * k + o) = D 177 (105 * 3 + o))
    (fun i => (105 - i).toNat) ?_ 0 _ ⟨D, rfl, by decide, by decide, Fr.refl, fun o a b => by omega⟩
  rintro i μ ⟨H, rfl, i0, i1, hF, ho⟩ ih
  have w1 : w32 (315 + i) = 105 * 3 + i := w32_id (by omega) (by omega)
  have w2 : w32 (w32 (105 * k) + i) = 105 * k + i := by rw [w32_id (x := 105 * k) (by omega) (by omega), w32_id (by omega) (by omega)]
  refine sg_X10_keepPlan_2 ⟨fun c => ⟨_, rfl, rfl, H, rfl, hF, mkv_ext (fun o a b => ho o a (by omega))⟩, fun c => ⟨rfl, Or.inl rfl, ?_⟩⟩
  rw [w1, w2]
  refine ⟨bnd (N := 420) rfl (by omega) (by show 105 * 3 + i < 420; omega), rfl, bnd (N := 420) rfl (by omega) (by show 105 * k + i < 420; omega), fun m1 e1 v ev => ?_⟩
  have h174 : H 177 (105 * 3 + i) = D 177 (105 * 3 + i) := hF 177 _ (by omega)
  have e1 : m1 = (wr H 183 (105 * k + i) (D 177 (105 * 3 + i)), rho n1 W) := by
    rw [← h174]
    exact e1
  subst e1
  rw [w32_id (by omega) (by omega)] at ev
  subst ev
  refine ih (i + 1) _ ⟨_, rfl, by omega, by omega, hF.wr ⟨rfl, by omega, by omega⟩, fun o a b => ?_⟩ (by omega)
  by_cases q : o = i
  · rw [q, wr_at]
  · rw [wr_j (by omega)]
    exact ho o a (by omega)
theorem C_mfromPlan {k : Int} (k0 : 0 ≤ k) (k1 : k ≤ 3) : Cl (d + 2) 0 0 mX10_fromPlan [vr 152, vi k] (D, rho n1 W) (KV (fun m => ∃ D', m = (D', rho n1 W) ∧ Fr (fun q j => bbF q j ∨ (q = 177 ∧ 315 ≤ j)) D D' ∧ mst D' = mkv D 183 (105 * k))) := by
  refine Cl_of mb_X10_fromPlan (Nat.le_of_ble_eq_true rfl) (sg_X10_fromPlan_0 ?_)
  refine Wp.loop (σ := Int) (fun i => [some (vr 152), some (vi k), some (vi i)])
    (fun i μ => ∃ H : DD, μ = (H, rho n1 W) ∧ 0 ≤ i ∧ i ≤ 105 ∧ Fr (fun q j => q = 177 ∧ 315 ≤ j) D H ∧ ∀ o, 0 ≤ o → o < i → H 177 (105 * 3 + o) = D 183 (105 * k + o))
    (fun i => (105 - i).toNat) ?_ 0 _ ⟨D, rfl, by decide, by decide, Fr.refl, fun o a b => by omega⟩
  rintro i μ ⟨H, rfl, i0, i1, hF, ho⟩ ih
  have w1 : w32 (315 + i) = 105 * 3 + i := w32_id (by omega) (by omega)
  have w2 : w32 (w32 (105 * k) + i) = 105 * k + i := by rw [w32_id (x := 105 * k) (by omega) (by omega), w32_id (by omega) (by omega)]
  refine sg_X10_fromPlan_2 ⟨fun c => ⟨rfl, cV (C_mbringBack (D := H) (i := 3) (by decide) (by decide)) ?_⟩, fun c => ⟨rfl, Or.inl rfl, ?_⟩⟩
  · rintro m ⟨G, rfl, fG, hG⟩
    refine ⟨rfl, G, rfl, (hF.mono (fun q j z => Or.inr z)).trans (fG.mono (fun q j z => Or.inl z)), ?_⟩
    rw [hG]
    exact mkv_ext (fun o a b => ho o a (by omega))
  rw [w1, w2]
  refine ⟨bnd (N := 420) rfl (by omega) (by show 105 * k + i < 420; omega), rfl, bnd (N := 420) rfl (by omega) (by show 105 * 3 + i < 420; omega), fun m1 e1 v ev => ?_⟩
  have h180 : H 183 (105 * k + i) = D 183 (105 * k + i) := hF 183 _ (by omega)
  have e1 : m1 = (wr H 177 (105 * 3 + i) (D 183 (105 * k + i)), rho n1 W) := by
    rw [← h180]
    exact e1
  subst e1
  rw [w32_id (by omega) (by omega)] at ev
  subst ev
  refine ih (i + 1) _ ⟨_, rfl, by omega, by omega, hF.wr ⟨rfl, by omega⟩, fun o a b => ?_⟩ (by omega)
  by_cases q : o = i
  · rw [q, wr_at]
  · rw [wr_j (by omega)]
    exact ho o a (by omega)
theorem PLN.fr {D' : DD} {k : Int} {F : Nat → Int → Prop} (h : PLN D lw k) (f : Fr F D D') (hF : ∀ q j, F q j → mplF 0 q j) (hs : mst D' = mst D) (h44 : 0 ≤ D' 152 44 ∧ D' 152 44 ≤ 1050) : PLN D' lw k := by
  obtain ⟨⟨g1, g2, g3, g4, g5⟩, h2, h3, h4⟩ := h
  have f := f.mono hF
  have cc : mcup D' = mcup D := mcup_fr f (fun j x y => by unfold mplF mgF; omega) (fun q j x y => by unfold mplF mgF; omega)
  refine ⟨⟨?_, by rw [cc]; exact g2, by rw [hs]; exact g3, g4.fr f (fun q j x y => by unfold mplF mgF; omega), fun a a0 a1 => ?_⟩, fun j j0 j1 => ?_, h44, by rw [hs]; exact h4⟩
  · unfold MB
    rw [f 152 0 (by unfold mplF mgF; omega)]
    exact g1
  · rw [f 161 a (by unfold mplF mgF; omega)]
    exact g5 a a0 a1
  · rw [f 180 j (by unfold mplF mgF; omega)]
    exact h2 j j0 j1
theorem C_mplanFrom {c : Cv} {L : Option (List Int)} {ws : Int → Wv} {mets : Int → Int} {goal : Int} : ∀ (f : Nat) {d n1 : Nat} {W : Nat → Nat} {D : DD} {k left tk led : Int} {s : Sv} {row : List Int} {b : Bst}, PLN D lw k → mcup D = c → mhl D lw = L → (∀ a, 0 ≤ a → a < 4 → wkm D a = ws a ∧ D 180 a = mets a) → k = 4 - (f : Int) → 0 ≤ k → 1 ≤ f → left = goal - led → 0 ≤ led → led ≤ 99 * k → 0 ≤ goal → goal ≤ 400 → 0 ≤ tk → tk ≤ 1000 * k → lst (D 181) k = row → SimS (mst D) s → PB D b →
    Cl (d + f + 130) 0 0 mX10_planFrom [vr 152, vi k, vi left, vi tk] (D, rho n1 W) (KV (fun m => ∃ (D' : DD) (V : Nat → Nat), m = (D', rho n1 V) ∧ V12 W V ∧ Fr (mplF k) D D' ∧ mst D' = mst D ∧ (0 ≤ D' 152 44 ∧ D' 152 44 ≤ 1050) ∧ PB D' (zext c L ws mets goal f s row led tk b)))
  | 0, _, _, _, _, _, _, _, _, _, _, _, _, _, _, _, _, _, h1, _, _, _, _, _, _, _, _, _, _ => by omega
  | f + 1, d, n1, W, D, k, left, tk, led, s, row, b, hP, hcu, hL, hws, hk, k0, hf1, hleft, led0, led1, g0, g1, tk0, tk1, hrow, hsim, hB => by
    have mono : ∀ q j, mplF k q j → mplF 0 q j := fun q j z => by unfold mplF mgF at z ⊢; omega
    refine Cl_of mb_X10_planFrom (Nat.le_of_ble_eq_true rfl) (sg_X10_planFrom_0 ?_)
    obtain ⟨step, hstep⟩ : ∃ step, step = zst1 c L ws mets goal (zext c L ws mets goal f) s row led tk := ⟨_, rfl⟩
    have hz : zext c L ws mets goal (f + 1) s row led tk b = zlp step 4 b := by rw [hstep]; rfl
    rw [hz]
    refine Wp.loop (σ := Int) (fun w => [some (vr 152), some (vi k), some (vi left), some (vi tk), some (vi w), none, none, none])
      (fun w μ => ∃ (H : DD) (V : Nat → Nat), μ = (H, rho n1 V) ∧ V12 W V ∧ Fr (mplF k) D H ∧ mst H = mst D ∧ (0 ≤ H 152 44 ∧ H 152 44 ≤ 1050) ∧ 0 ≤ w ∧ w ≤ 4 ∧ PB H (zlp step w.toNat b))
      (fun w => (4 - w).toNat) ?_ 0 _ ⟨D, W, rfl, V12.refl, Fr.refl, rfl, hP.2.2.1, by decide, by decide, hB⟩
    rintro w μ ⟨H, V, rfl, hV, hF, hs, h44, w0, w1, hPB⟩ ih
    have hPH : PLN H lw k := hP.fr hF mono hs h44
    have cH : mcup H = c := by rw [mcup_fr hF (fun j x y => by unfold mplF mgF; omega) (fun q j x y => by unfold mplF mgF; omega), hcu]
    have e177 : w < 4 → H 180 w = mets w := fun h => by rw [hF 180 w (by unfold mplF mgF; omega)]; exact (hws w w0 h).2
    have ewk : w < 4 → wkm H w = ws w := fun h => by rw [wkm_fr hF (fun q j x y => by unfold mplF mgF; omega)]; exact (hws w w0 h).1
    have stp : w < 4 → zlp step (w + 1).toNat b = step w (zlp step w.toNat b) := fun _ => by
      rw [show (w + 1).toNat = w.toNat + 1 by omega]
      show step ((w.toNat : Nat) : Int) (zlp step w.toNat b) = _
      rw [show ((w.toNat : Nat) : Int) = w by omega]
    have ww : w32 (w + 1) = w + 1 := w32_id (by omega) (by omega)
    have skip : w < 4 → step w (zlp step w.toNat b) = zlp step w.toNat b → ∀ v, v = w32 (w + 1) → Wp (d + (f + 1) + 130) 0 0 mX10_planFrom 3 [some (vr 152), some (vi k), some (vi left), some (vi tk), some (vi v), none, none, none] [] (H, rho n1 V) (KV (fun m => ∃ (D' : DD) (V : Nat → Nat), m = (D', rho n1 V) ∧ V12 W V ∧ Fr (mplF k) D D' ∧ mst D' = mst D ∧ (0 ≤ D' 152 44 ∧ D' 152 44 ≤ 1050) ∧ PB D' (zlp step 4 b))) := by
      intro hw4 he v ev
      rw [ww] at ev
      subst ev
      exact ih (w + 1) _ ⟨H, V, rfl, hV, hF, hs, h44, by omega, by omega, by rw [stp hw4, he]; exact hPB⟩ (by omega)
    refine sg_X10_planFrom_3 ⟨fun c4 => ⟨rfl, H, V, rfl, hV, hF, hs, h44, by rw [show w.toNat = 4 by omega] at hPB; exact hPB⟩, fun c4 => ⟨rfl, Or.inl rfl, bnd (N := 4) rfl w0 (by omega), ?_⟩⟩
    have w3 : w < 4 := by omega
    obtain ⟨mw, hmw⟩ : ∃ mw, mw = mets w := ⟨_, rfl⟩
    have mwr : 0 ≤ mw ∧ mw ≤ 99 := by
      rw [hmw, ← (hws w w0 w3).2]
      exact hP.2.1 w w0 w3
    obtain ⟨tw, htw⟩ : ∃ tw, tw = wTicks (ws w) := ⟨_, rfl⟩
    have hwt : H 161 w = tw := by
      rw [htw, ← ewk w3]
      rfl
    have twr : 0 ≤ tw ∧ tw ≤ 1000 := by
      rw [← hwt]
      exact hPH.1.2.2.2.2 w w0 (by omega)
    rw [show mD (H, rho n1 V) (mR (H, rho n1 V) 152 49) w = mw from (e177 w3).trans hmw.symm, show mD (H, rho n1 V) (mR (H, rho n1 V) 152 22) w = tw from hwt, w32_id (x := tk + tw) (by omega) (by omega)]
    have hst : ∀ b', step w b' = if mw = 0 then b' else if b'.1 ≤ tk + tw then b' else if zSum (zgo c L (ws w) s) = 0 then (if goal ≤ led + mw then (tk + tw, row ++ [w]) else zext c L ws mets goal f (zS (zgo c L (ws w) s)) (row ++ [w]) (led + mw) (tk + tw) b') else b' := fun b' => by
      rw [hstep, htw, hmw]
      rfl
    -- one WALK more
    have s53 : ¬ mw = 0 → ¬ (zlp step w.toNat b).1 ≤ tk + tw → Wp (d + (f + 1) + 130) 0 0 mX10_planFrom 53 [some (vr 152), some (vi k), some (vi left), some (vi tk), some (vi w), some (vi (tk + tw)), none, none] [] (H, rho n1 V) (KV (fun m => ∃ (D' : DD) (V : Nat → Nat), m = (D', rho n1 V) ∧ V12 W V ∧ Fr (mplF k) D D' ∧ mst D' = mst D ∧ (0 ≤ D' 152 44 ∧ D' 152 44 ≤ 1050) ∧ PB D' (zlp step 4 b))) := by
      intro nm nb
      have hstw := hst (zlp step w.toNat b)
      rw [if_neg nm, if_neg nb] at hstw
      refine sg_X10_planFrom_53 ⟨rfl, cV (C_mputBy (D := H) (i := 3) (by decide) (by decide)) ?_⟩
      rintro m ⟨D1, rfl, f1, k1⟩
      refine ⟨rfl, rfl, bnd (N := 4) rfl k0 (by omega), fun m2 e2 => ?_⟩
      obtain ⟨D2, hD2⟩ : ∃ D2, D2 = wr D1 181 k w := ⟨_, rfl⟩
      have e2 : m2 = (D2, rho n1 V) := by rw [hD2]; exact e2
      subst e2
      have f2 : Fr (fun q j => q = 181 ∧ j = k) D1 D2 := by
        rw [hD2]
        exact Fr.refl.wr ⟨rfl, rfl⟩
      refine cI (C_mkeepPlan (D := D2) (k := k) k0 (by omega)) ?_
      rintro x1 m ⟨rfl, D3, rfl, f3, k3⟩
      have F13 : Fr (mplF x1) H D3 := ((f1.mono (fun q j z => by unfold pkF at z; unfold mplF; omega)).trans (f2.mono (fun q j z => by unfold mplF; omega))).trans (f3.mono (fun q j z => by unfold mplF; omega))
      have s3 : mst D3 = mst H := by
        rw [mst_fr f3 (by omega) (by omega) (fun q j x y => by omega), mst_fr f2 (by omega) (by omega) (fun q j x y => by omega), mst_fr f1 (by unfold pkF; omega) (by unfold pkF; omega) (fun q j x y => by unfold pkF; omega)]
      have k3' : mkv D3 183 (105 * x1) = mst D := by
        rw [k3, ← hs, ← k1]
        exact mkv_ext (fun o a b => f2 177 _ (by omega))
      have a44 : D3 152 44 = H 152 44 := by rw [f3 152 44 (by omega), f2 152 44 (by omega), f1 152 44 (by unfold pkF; omega)]
      have hP3 : PLN D3 lw x1 := hPH.fr F13 mono s3 (by rw [a44]; exact h44)
      have c3 : mcup D3 = c := by rw [mcup_fr F13 (fun j x y => by unfold mplF mgF; omega) (fun q j x y => by unfold mplF mgF; omega), cH]
      have w3' : wkm D3 w = ws w := by rw [wkm_fr F13 (fun q j x y => by unfold mplF mgF; omega), ewk w3]
      have t3 : D3 161 w = tw := by rw [F13 161 w (by unfold mplF mgF; omega), hwt]
      have l3 : mhl D3 lw = L := by
        unfold mhl
        rw [c3, ← hcu]
        exact hL
      have p3 : PB D3 (zlp step w.toNat b) := ((hPB.fr f1 (by unfold pkF; omega) (by unfold pkF; omega) (fun j => by unfold pkF; omega)).fr f2 (by omega) (by omega) (fun j => by omega)).fr f3 (by omega) (by omega) (fun j => by omega)
      have r3 : lst (D3 181) x1 = row ∧ D3 181 x1 = w := by
        have g : D3 181 = D2 181 := f3.obj (fun j => by omega)
        refine ⟨?_, ?_⟩
        · rw [g, ← hrow]
          refine lst_ext (fun j j0 j1 => ?_)
          rw [f2 181 j (by omega), f1 181 j (by unfold pkF; omega), hF 181 j (by unfold mplF mgF; omega)]
        · rw [g, hD2, wr_at]
      obtain ⟨z, hzz⟩ : ∃ z : Zr, z = (mst D3, 0, D3 152 40, D3 152 42, 0, lst (D3 176) (D3 152 44)) := ⟨_, rfl⟩
      have hW3 : Wat D3 z := by
        rw [hzz]
        exact ⟨rfl, rfl, rfl, rfl, hP3.2.2.1.1, hP3.2.2.1.2⟩
      have zS3 : zS z = mst D3 := by rw [hzz]; rfl
      have zSum3 : zSum z = 0 := by rw [hzz]; rfl
      obtain ⟨q1, q2, q3, q4, q5⟩ := hP3.1
      refine ⟨rfl, cI (C_mgoOn (D := D3) (lw := lw) (a := w) (fr := 0) (to := 1000) (tu := 1001) (z := z) ⟨w0, by omega⟩ (q5 w w0 (by omega)) q1 q2 hW3 ⟨by rw [zS3]; exact q3, by omega⟩ (by decide) (by decide) (by omega) (by rw [zS3]; have := hP3.2.2.2; omega) q4) ?_⟩
      rintro x2 m ⟨D4, U, rfl, hU, f4, hW4, hS4, hx2, -⟩
      have ez : zS (zGo D3 lw w 0 1000 1001 z) = zS (zrun 1040 c L (ws w) (fun _ => 0) tw.toNat 0 (zgo0 (mst D3))) ∧ zSum (zGo D3 lw w 0 1000 1001 z) = zSum (zrun 1040 c L (ws w) (fun _ => 0) tw.toNat 0 (zgo0 (mst D3))) := by
        have e : zGo D3 lw w 0 1000 1001 z = zrun 1050 c L (ws w) (fun _ => 0) tw.toNat 0 z := by
          unfold zGo
          have l3' : lw (cSet (mcup D3) 6) = L := l3
          rw [l3', c3, w3', t3, show (min 1000 tw - 0).toNat = tw.toNat by omega]
          exact zrun_t (fun i i0 i1 => bi_0 (by omega))
        rw [e]
        exact zrun_SS (by rw [zS3]; rfl) (by rw [zSum3]; rfl)
      have hsim3 : SimZ (zgo0 (mst D3)) (zgo0 s) := ⟨by rw [s3, hs]; exact hsim, rfl⟩
      have clate : 0 ≤ cSet c 5 ∧ cSet c 5 ≤ 20 := by rw [← c3]; exact q2.late
      have hrun := SimZ.run (cap := 1040) (c := c) (L := L) (w := ws w) (t := fun _ => 0) clate.1 clate.2 (n := tw.toNat) (i := 0) hsim3 q3.2.2 (by show sTick (mst D3) + _ < _; have := hP3.2.2.2; omega)
      have hgo : zrun 1040 c L (ws w) (fun _ => 0) tw.toNat 0 (zgo0 s) = zgo c L (ws w) s := by rw [htw]; rfl
      rw [hgo] at hrun
      have cok : COK c := by rw [← c3]; exact q2
      obtain ⟨p0, p1, p2, p3'⟩ := zrun_phys (cap := 1040) (L := L) (w := ws w) (t := fun _ => 0) cok (n := tw.toNat) (i := 0) (z := zgo0 (mst D3)) ⟨q3, Int.le_refl 0⟩ (by show (0 : Int) + _ < _; omega) (by show sTick (mst D3) + _ < _; have := hP3.2.2.2; omega)
      obtain ⟨y, hy⟩ : ∃ y, y = zrun 1040 c L (ws w) (fun _ => 0) tw.toNat 0 (zgo0 (mst D3)) := ⟨_, rfl⟩
      rw [← hy] at ez hrun p0 p3'
      have hx2e : x2 = zSum (zgo c L (ws w) s) := by
        have e1 := sum_is zSum3 hS4 hx2
        rw [ez.2] at e1
        rw [← e1]
        exact congrArg (fun o : Zo => o.1) hrun.2
      have s4 : mst D4 = zS y := by rw [← ez.1]; exact hW4.1
      have h44' : 0 ≤ D4 152 44 ∧ D4 152 44 ≤ 1050 := ⟨hW4.2.2.2.2.1, hW4.2.2.2.2.2⟩
      have F34 : Fr (mplF x1) D3 D4 := f4.mono (fun q j z => Or.inl z)
      have p4 : PB D4 (zlp step w.toNat b) := p3.fr f4 (by unfold mgF; omega) (by unfold mgF; omega) (fun j => by unfold mgF; omega)
      have hV4 : V12 W U := hV.trans hU
      -- back to where it was
      have s168 : ∀ (G : DD) (U2 : Nat → Nat) (b' : Bst), V12 W U2 → Fr (mplF x1) D4 G → mkv G 183 (105 * x1) = mkv D4 183 (105 * x1) → (0 ≤ G 152 44 ∧ G 152 44 ≤ 1050) → PB G b' → zlp step (w + 1).toNat b = b' → Wp (d + (f + 1) + 130) 0 0 mX10_planFrom 168 [some (vr 152), some (vi x1), some (vi left), some (vi tk), some (vi w), some (vi (tk + tw)), some (vi x1), none] [] (G, rho n1 U2) (KV (fun m => ∃ (D' : DD) (V : Nat → Nat), m = (D', rho n1 V) ∧ V12 W V ∧ Fr (mplF x1) D D' ∧ mst D' = mst D ∧ (0 ≤ D' 152 44 ∧ D' 152 44 ≤ 1050) ∧ PB D' (zlp step 4 b))) := by
        intro G U2 b' hU2 fG kG g44 hG hb'
        refine sg_X10_planFrom_168 ⟨rfl, cV (C_mfromPlan (D := G) (k := x1) k0 (by omega)) ?_⟩
        rintro m ⟨K, rfl, fK, hK⟩ v ev
        rw [ww] at ev
        subst ev
        have kk : mkv D4 183 (105 * x1) = mst D := by
          rw [← k3']
          exact mkv_ext (fun o a b => f4 183 _ (by unfold mgF; omega))
        refine ih (w + 1) _ ⟨K, U2, rfl, hU2, (((hF.trans F13).trans F34).trans fG).trans (fK.mono (fun q j z => by unfold bbF at z; unfold mplF mgF; omega)), by rw [hK, kG, kk], ?_, by omega, by omega, ?_⟩ (by omega)
        · rw [fK 152 44 (by unfold bbF; omega)]
          exact g44
        · rw [hb']
          exact hG.fr fK (by unfold bbF; omega) (by unfold bbF; omega) (fun j => by unfold bbF; omega)
      rw [hx2e]
      refine ⟨fun c5 => s168 D4 U (zlp step w.toNat b) hV4 Fr.refl rfl h44' p4 (by rw [stp w3, hstw, if_neg c5]), fun c5 => ⟨rfl, Or.inl rfl, bnd (N := 4) rfl w0 (by omega), ?_⟩⟩
      rw [if_pos c5] at hstw
      have m4 : mD (D4, rho n1 U) (mR (D4, rho n1 U) 152 49) w = mw := by
        show D4 180 w = mw
        rw [f4 180 w (by unfold mgF; omega), F13 180 w (by unfold mplF mgF; omega), e177 w3, hmw]
      rw [m4]
      refine ⟨fun c6 => ⟨fun c7 => s168 D4 U (zlp step w.toNat b) hV4 Fr.refl rfl h44' p4 ?_, fun c7 => ⟨bnd (N := 4) rfl w0 (by omega), ?_⟩⟩, fun c6 m6 e6 m7 e7 => ?_⟩
      · rw [stp w3, hstw, if_neg (by omega)]
        have : f = 0 := by omega
        subst this
        rfl
      · rw [w32_id (x := x1 + 1) (by omega) (by omega), w32_id (x := left - mw) (by omega) (by omega)]
        have hP4 : PLN D4 lw (x1 + 1) := by
          refine ⟨⟨?_, ?_, by rw [s4]; exact p0.1, q4.fr f4 (fun q j x y => by unfold mgF; omega), fun a a0 a1 => ?_⟩, fun j j0 j1 => ?_, h44', ?_⟩
          · unfold MB
            rw [f4 152 0 (by unfold mgF; omega)]
            exact q1
          · rw [mcup_fr f4 (fun j x y => by unfold mgF; omega) (fun q j x y => by unfold mgF; omega)]
            exact q2
          · rw [f4 161 a (by unfold mgF; omega)]
            exact q5 a a0 a1
          · rw [f4 180 j (by unfold mgF; omega)]
            exact hP3.2.1 j j0 j1
          · rw [s4, p3']
            show sTick (mst D3) + _ ≤ _
            have := hP3.2.2.2
            omega
        have c4' : mcup D4 = c := by rw [mcup_fr f4 (fun j x y => by unfold mgF; omega) (fun q j x y => by unfold mgF; omega), c3]
        have F04 : Fr (mplF x1) D D4 := (hF.trans F13).trans F34
        have hrec := C_mplanFrom (c := c) (L := L) (ws := ws) (mets := mets) (goal := goal) f (d := d) (n1 := n1) (W := U) (D := D4) (k := x1 + 1) (left := left - mw) (tk := tk + tw) (led := led + mw) (s := zS (zgo c L (ws w) s)) (row := row ++ [w]) (b := zlp step w.toNat b) hP4 c4' (by unfold mhl; rw [c4', ← hcu]; exact hL) (fun a a0 a1 => by
          rw [wkm_fr F04 (fun q j x y => by unfold mplF mgF; omega), F04 180 a (by unfold mplF mgF; omega)]
          exact hws a a0 a1) (by omega) (by omega) (by omega) (by omega) (by omega) (by omega) g0 g1 (by omega) (by omega) (by
            have e178 : D4 181 = D3 181 := f4.obj (fun j => by unfold mgF; omega)
            rw [e178, lst_s k0, r3.1, r3.2]) (by rw [s4]; exact hrun.1) p4
        refine cV hrec ?_
        rintro m ⟨G, U2, rfl, hU2, fG, sG, g44, hG⟩
        refine s168 G U2 _ (hV4.trans hU2) (fG.mono (fun q j z => by unfold mplF mgF at z ⊢; omega)) (mkv_ext (fun o a b => fG 183 _ (by unfold mplF mgF; omega))) g44 hG ?_
        rw [stp w3, hstw, if_neg (by omega)]
      · have e7 : m7 = (wr (wr D4 152 53 (tk + tw)) 152 52 (x1 + 1), rho n1 U) := by
          rw [e7, e6, w32_id (x := x1 + 1) (by omega) (by omega)]
          rfl
        subst e7
        obtain ⟨B, hB'⟩ : ∃ B, B = wr (wr D4 152 53 (tk + tw)) 152 52 (x1 + 1) := ⟨_, rfl⟩
        rw [← hB']
        have fB : Fr (fun q j => q = 152 ∧ (j = 52 ∨ j = 53)) D4 B := by
          rw [hB']
          exact (Fr.refl.wr ⟨rfl, Or.inr rfl⟩).wr ⟨rfl, Or.inl rfl⟩
        have b52 : B 152 52 = x1 + 1 := by rw [hB', wr_at]
        have b53 : B 152 53 = tk + tw := by rw [hB', wr_j (by decide), wr_at]
        have b178 : ∀ j, B 181 j = D3 181 j := fun j => by rw [fB 181 j (by omega), f4 181 j (by unfold mgF; omega)]
        refine Wp.loop (σ := Int) (fun i => [some (vr 152), some (vi x1), some (vi left), some (vi tk), some (vi w), some (vi (tk + tw)), some (vi x1), some (vi i)])
          (fun i μ => ∃ G : DD, μ = (G, rho n1 U) ∧ 0 ≤ i ∧ i ≤ x1 + 1 ∧ Fr (fun q _ => q = 182) B G ∧ ∀ j, 0 ≤ j → j < i → G 182 j = D3 181 j)
          (fun i => (x1 + 1 - i).toNat) ?_ 0 _ ⟨B, rfl, by decide, by omega, Fr.refl, fun j a b => by omega⟩
        rintro i μ ⟨G, rfl, i0, i1, fG, hj⟩ ih2
        refine sg_X10_planFrom_116 ⟨fun c7 => ?_, fun c7 => ⟨rfl, Or.inl rfl, bnd (N := 4) rfl i0 (by omega), rfl, bnd (N := 4) rfl i0 (by omega), fun m1 e1 v ev => ?_⟩⟩
        · refine s168 G U _ hV4 ((fB.mono (fun q j z => by unfold mplF; omega)).trans (fG.mono (fun q j z => by unfold mplF; omega))) (mkv_ext (fun o a b => by rw [fG 183 _ (by omega), fB 183 _ (by omega)])) ?_ (Or.inr ⟨?_, ?_, rfl⟩) ?_
          · rw [fG 152 44 (by omega), fB 152 44 (by omega)]
            exact h44'
          · rw [fG 152 52 (by omega), b52]
            omega
          · rw [fG 152 52 (by omega), b52]
            omega
          · rw [stp w3, hstw, if_pos (by omega), fG 152 53 (by omega), b53, fG 152 52 (by omega), b52, lst_s k0, lst_ext (f := G 182) (g := D3 181) (fun j a b => hj j a (by omega)), r3.1, hj x1 k0 (by omega), r3.2]
        · have e1 : m1 = (wr G 182 i (D3 181 i), rho n1 U) := by
            have g178 : G 181 i = D3 181 i := by rw [fG 181 i (by omega), b178]
            rw [← g178]
            exact e1
          subst e1
          rw [w32_id (by omega) (by omega)] at ev
          subst ev
          refine ih2 (i + 1) _ ⟨_, rfl, by omega, by omega, fG.wr rfl, fun j a b => ?_⟩ (by omega)
          by_cases q : j = i
          · rw [q, wr_at]
          · rw [wr_j q]
            exact hj j a (by omega)
    refine ⟨fun nm => ⟨Or.inl rfl, bnd (N := 4) rfl w0 (by omega), fun v1 ev => ?_⟩, fun em => skip w3 (by rw [hst, if_pos em])⟩
    subst ev
    refine ⟨fun c5 => s53 nm ?_, fun c5 => ⟨fun c6 => s53 nm ?_, fun c6 => skip w3 ?_⟩⟩
    · have c5 : H 152 52 = -1 := c5
      rcases hPB with ⟨-, r2⟩ | ⟨r1, -, -⟩
      · rw [r2]
        show ¬ (2147483647 : Int) ≤ tk + tw
        omega
      · omega
    · have c5 : ¬ H 152 52 = -1 := c5
      have c6 : tk + tw < H 152 53 := c6
      rcases hPB with ⟨r1, -⟩ | ⟨-, -, r2⟩
      · exact absurd r1 c5
      · rw [r2]
        show ¬ H 152 53 ≤ tk + tw
        omega
    · have c5 : ¬ H 152 52 = -1 := c5
      have c6 : ¬ tk + tw < H 152 53 := c6
      rw [hst, if_neg nm]
      rcases hPB with ⟨r1, -⟩ | ⟨-, -, r2⟩
      · exact absurd r1 c5
      · rw [r2]
        exact if_pos (show H 152 53 ≤ tk + tw by omega)
end MPL
