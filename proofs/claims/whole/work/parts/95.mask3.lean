/-! ===== the model is asked, 3: two, turn, few ===== -/
section MA3
variable {d n1 : Nat} {W V : Nat → Nat} {D E : DD} {lw : Int → Option (List Int)} {c : Cv}
theorem C_mtwo {a : Int} (hm : MRun D lw) : Cl (d + 131) 0 0 mX10_two [vr 152, vi a] (D, rho n1 W) (KI (Was n1 D W (S_two (mcup D) (mhl D lw) (wkm D) a))) := by
  refine Cl_of mb_X10_two (Nat.le_of_ble_eq_true rfl) (sg_X10_two_0 ⟨rfl, fun m1 e1 => ?_⟩)
  obtain ⟨E, hE⟩ : ∃ E, E = wr D 152 15 0 := ⟨_, rfl⟩
  have e1 : m1 = (E, rho n1 W) := by rw [hE]; exact e1
  subst e1
  have h0 : MAc D W E W (mcup D) := MAc.beg hE
  refine cB C_misWalk (fun hi => yN ⟨rfl, m_whole hi hm h0 hm.2.1 fun F U h ht h41 _ => ?_⟩) (fun hi => nN ⟨_, rfl, Was_no h0 (by unfold S_two; rw [if_neg hi]) (by unfold S_two; rw [if_neg hi])⟩)
  have hS : S_two (mcup D) (mhl D lw) (wkm D) a = ((ztwo (mcup D) (mhl D lw) (wkm D a)).1, some [oSum (zOn (mcup D) (mhl D lw) (wkm D a) 1), (ztwo (mcup D) (mhl D lw) (wkm D a)).2]) := if_pos hi
  unfold ztwo at hS
  have wt : wTicks (wkm D a) ≤ 1000 := (hm.2.2.2.2 a hi.1 hi.2).2
  generalize eO : oSum (zOn (mcup D) (mhl D lw) (wkm D a) 1) = o1 at hS
  show Wp (d + 131) 0 0 mX10_two 29 [some (vr 152), some (vi a), some (vi (oSum (zOn (mcup D) (mhl D lw) (wkm D a) 1))), some (vi (-1)), some (vi 0), some (vi 0), none] [] (F, rho n1 U) _
  rw [eO]
  refine Wp.loop (σ := (Int × Int) × Int) (fun σ => [some (vr 152), some (vi a), some (vi o1), some (vi σ.1.1), some (vi σ.1.2), some (vi σ.2), none])
    (fun σ μ => ∃ (E : DD) (V : Nat → Nat), μ = (E, rho n1 V) ∧ MAc D W E V (mcup D) ∧ 0 ≤ σ.2 ∧ σ.2 ≤ 41 ∧ Zst (fun k => oSum (zFrom (mcup D) (mhl D lw) (wkm D a) k)) (fun k => k) σ.2.toNat σ.1.1 σ.1.2)
    (fun σ => (41 - σ.2).toNat) ?_ ((-1, 0), 0) _ ⟨F, U, rfl, h, by decide, by decide, Or.inl ⟨rfl, rfl, rfl⟩⟩
  clear ht h41 h h0 hE
  rintro ⟨⟨fd, ls⟩, k⟩ μ ⟨E, V, rfl, h, k0, k1, hz⟩ ih
  dsimp only at k0 k1 hz ih ⊢
  refine sg_X10_two_29 ⟨fun cc => ⟨rfl, fun m1 e1 => ?_⟩, fun cc => ⟨rfl, cV (C_mputBy (D := E) (i := 3) (by decide) (by decide)) ?_⟩⟩
  · have e1 : m1 = (wr E 152 14 0, rho n1 V) := e1
    subst e1
    obtain ⟨q1, q2⟩ := hz.is (by omega)
    rw [show k.toNat = 41 by omega] at q1 q2
    refine cV (C_mtl (MTl.beg (E := E)) (by decide)) ?_
    rintro m ⟨G1, rfl, g1⟩
    refine ⟨rfl, cV (C_mtl g1 (by simp)) ?_⟩
    rintro m ⟨G2, rfl, g2⟩
    refine ⟨_, rfl, Was_tell h g2 ?_ ?_⟩
    · rw [hS, ← q1]
    · rw [hS, ← q2]
      rfl
  · have hmE := h.mr hm hm.2.1
    rintro m ⟨D1, rfl, f1, k1'⟩
    refine ⟨rfl, cV (C_mbegin (D := D1)) ?_⟩
    rintro m ⟨D2, rfl, f2, h2⟩
    refine ⟨rfl, fun m3 e3 => ?_⟩
    have e3 : m3 = (wr D2 152 10 1, rho n1 V) := e3
    subst e3
    refine cV (C_mwatch (D := wr D2 152 10 1)) ?_
    rintro m ⟨D4, rfl, f4, w40, w41, w42, w44⟩
    obtain ⟨g4, gW, g41, k4⟩ := mbeg_join f1 k1' f2 h2 f4 w40 w41 w42 w44
    have c4 := mcup_mr g4
    have hm4 : MRun D4 lw := hmE.mr g4 (by rw [gW.1]; exact (zbeg_ok hmE.2.1).1)
    have w4 : wkm D4 a = wkm E a := wkm_fr g4 (fun q j x y => by unfold mrF mgF; omega)
    have l4 : mhl D4 lw = mhl E lw := by unfold mhl; rw [c4]
    refine ⟨rfl, cI (m_from (D4 := D4) (k := k) (s := mst E) (seed := 1) hi hm4 (by rw [c4]; exact gW) k0 (by omega)) ?_⟩
    rintro x m ⟨D5, U, rfl, hU, f5, t5, hx, -⟩
    refine ⟨rfl, cV (C_mbringBack (D := D5) (i := 3) (by decide) (by decide)) ?_⟩
    rintro m ⟨D6, rfl, f6, h6⟩
    obtain ⟨g6, s6⟩ := mend_join g4 k4 f5 f6 h6
    have h2' := h.run hU g6 s6
    rw [c4, l4, w4, h.hl, h.wk a, h.2.2.2.1] at hx
    have hx : x = oSum (zFrom (mcup D) (mhl D lw) (wkm D a) k) := hx
    have ek : ((k.toNat : Nat) : Int) = k := by omega
    have ef : oSum (zFrom (mcup D) (mhl D lw) (wkm D a) ((k.toNat : Nat) : Int)) = x := by rw [ek, hx]
    have hb := (zOut_bnd (c := mcup D) (L := mhl D lw) (w := wkm D a) (t := fun _ => 0) (n := (wTicks (wkm D a) - k).toNat) (i := k) (seed := 1) hm.2.1 (by omega)).2
    change oSum (zFrom (mcup D) (mhl D lw) (wkm D a) k) ≤ _ at hb
    have wk : w32 (k + 1) = k + 1 := w32_id (by omega) (by omega)
    have nx : (k + 1).toNat = k.toNat + 1 := by omega
    refine ⟨fun c1 v1 e1 => ?_, fun c1 => ⟨fun c2 v2 e2 => ?_, fun c2 v3 e3 => ?_⟩⟩
    · rw [wk] at e1
      subst e1
      refine ih ((k, x), k + 1) _ ⟨D6, U, rfl, h2', by dsimp only; omega, by dsimp only; omega, ?_⟩ (by dsimp only; omega)
      dsimp only
      rw [nx]
      exact hz.first c1 ef ek (by omega) (by omega)
    · rw [wk] at e2
      subst e2
      refine ih ((k, x), k + 1) _ ⟨D6, U, rfl, h2', by dsimp only; omega, by dsimp only; omega, ?_⟩ (by dsimp only; omega)
      dsimp only
      rw [nx]
      exact hz.less c1 ef ek c2 (by omega)
    · rw [wk] at e3
      subst e3
      refine ih ((fd, ls), k + 1) _ ⟨D6, U, rfl, h2', by dsimp only; omega, by dsimp only; omega, ?_⟩ (by dsimp only; omega)
      dsimp only
      rw [nx]
      exact hz.keep c1 ef c2
theorem C_mturn {a t : Int} (hm : MRun D lw) : Cl (d + 131) 0 0 mX10_turn [vr 152, vi a, vi t] (D, rho n1 W) (KI (Was n1 D W (S_turn (mcup D) (mhl D lw) (wkm D) a t))) := by
  refine Cl_of mb_X10_turn (Nat.le_of_ble_eq_true rfl) (sg_X10_turn_0 ⟨rfl, fun m1 e1 => ?_⟩)
  obtain ⟨E, hE⟩ : ∃ E, E = wr D 152 15 0 := ⟨_, rfl⟩
  have e1 : m1 = (E, rho n1 W) := by rw [hE]; exact e1
  subst e1
  have h0 : MAc D W E W (mcup D) := MAc.beg hE
  refine cB C_misWalk (fun hi => yE (cB C_in (fun ht => yN ⟨rfl, cI (C_mwithTurn (D := E) (lw := lw) (a := a) (t := t) hi (h0.mr hm hm.2.1)) ?_⟩) (fun ht => nN ⟨_, rfl, Was_no h0 (by unfold S_turn; rw [if_neg (fun q => ht q.2)]) (by unfold S_turn; rw [if_neg (fun q => ht q.2)])⟩))) (fun hi => nE ⟨_, rfl, Was_no h0 (by unfold S_turn; rw [if_neg (fun q => hi q.1)]) (by unfold S_turn; rw [if_neg (fun q => hi q.1)])⟩)
  rintro x m ⟨F, U, rfl, hU, f, hs, hx⟩
  have h := h0.run hU f hs
  rw [h0.wk a, h0.hl, h0.2.2.2.1] at hx
  have hx : x = oSum (zTurn (mcup D) (mhl D lw) (wkm D a) t) := hx
  refine ⟨rfl, fun m2 e2 => ?_⟩
  obtain ⟨G, hG⟩ : ∃ G, G = wr F 152 14 0 := ⟨_, rfl⟩
  have e2 : m2 = (G, rho n1 U) := by rw [hG]; exact e2
  subst e2
  have fG : Fr (fun q j => q = 152 ∧ j = 14) F G := by
    rw [hG]
    exact Fr.refl.wr ⟨rfl, rfl⟩
  have sG : mst G = mst F := mst_fr fG (by omega) (by omega) (fun q j x y => by omega)
  have cG : mcup G = mcup F := mcup_fr fG (fun j x y => by omega) (fun q j x y => by omega)
  have hmF := h.mr hm hm.2.1
  have hmG : MRun G lw := by
    obtain ⟨p1, p2, p3, p4, p5⟩ := hmF
    refine ⟨?_, by rw [cG]; exact p2, by rw [sG]; exact p3, p4.fr fG (fun q j x y => by omega), fun a a0 a1 => ?_⟩
    · unfold MB
      rw [fG 152 0 (by omega)]
      exact p1
    · rw [fG 161 a (by omega)]
      exact p5 a a0 a1
  refine cI (C_mwholly (D := G) (lw := lw) (a := a) (seed := 1) hi hmG) ?_
  rintro x4 m ⟨H, U2, rfl, hU2, f2, hs2, hx4, -, -⟩
  have wG : wkm G a = wkm D a := by rw [wkm_fr fG (fun q j x y => by omega), h.wk a]
  have lG : mhl G lw = mhl D lw := by
    unfold mhl
    rw [cG, h.2.2.2.1]
  rw [wG, lG, cG, h.2.2.2.1] at hx4
  have h14 : H 152 14 = 0 := by rw [f2 152 14 (by unfold mrF mgF; omega), hG, wr_at]
  have ht0 : mtoldv H = [] := lst_0 (by omega)
  refine ⟨rfl, cV (C_mtell (D := H) (x := x4) (by omega) (by omega)) ?_⟩
  rintro m ⟨K, rfl, fK, t1, t2⟩
  obtain ⟨a1, a2, a3, a4, a5, a6⟩ := h
  refine ⟨_, rfl, K, U2, rfl, a1.trans hU2, ?_, ?_, ?_, ?_, ?_, ?_⟩
  · exact ((a2.trans (fG.mono (fun q j z => by unfold maF; omega))).trans (f2.mono (fun q j z => by unfold mrF mgF at z; unfold maF; omega))).trans (fK.mono (fun q j z => by unfold mtF at z; unfold maF; omega))
  · rw [mst_fr fK (by unfold mtF; omega) (by unfold mtF; omega) (fun q j x y => by unfold mtF; omega), hs2, sG, a3]
  · rw [mcup_fr fK (fun j x y => by unfold mtF; omega) (fun q j x y => by unfold mtF; omega), mcup_mr f2, cG, a4]
  · rw [fK 152 15 (by unfold mtF; omega), f2 152 15 (by unfold mrF mgF; omega), fG 152 15 (by omega), a5]
  · unfold S_turn
    rw [if_pos ⟨hi, ht⟩, hx]
  · unfold S_turn
    rw [if_pos ⟨hi, ht⟩]
    show (mtoldv K, K 152 14) = ([oSum (zOn (mcup D) (mhl D lw) (wkm D a) 1)], 1)
    rw [t1, t2, ht0, h14, hx4]
    rfl
theorem C_mfew {a x : Int} (hm : MRun D lw) : Cl (d + 131) 0 0 mX10_few [vr 152, vi a, vi x] (D, rho n1 W) (KI (Was n1 D W (S_few (mcup D) (mhl D lw) (wkm D) a x))) := by
  refine Cl_of mb_X10_few (Nat.le_of_ble_eq_true rfl) (sg_X10_few_0 ⟨rfl, fun m1 e1 => ?_⟩)
  obtain ⟨E, hE⟩ : ∃ E, E = wr D 152 15 0 := ⟨_, rfl⟩
  have e1 : m1 = (E, rho n1 W) := by rw [hE]; exact e1
  subst e1
  have h0 : MAc D W E W (mcup D) := MAc.beg hE
  have no : ¬ ((0 ≤ a ∧ a ≤ 3) ∧ (0 ≤ x ∧ x ≤ 99)) → Was n1 D W (S_few (mcup D) (mhl D lw) (wkm D) a x) (-1) (E, rho n1 W) := fun h => Was_no h0 (by unfold S_few; rw [if_neg h]) (by unfold S_few; rw [if_neg h])
  have hcl : 1 ≤ cLast (mcup D) ∧ cLast (mcup D) ≤ 19 := ⟨hm.2.1.1, hm.2.1.2.1⟩
  have hL : ∀ {E : DD} {V : Nat → Nat}, MAc D W E V (mcup D) → w32 (mD (E, rho n1 V) 152 0 - 1) = cLast (mcup D) := fun {E V} h => by
    have e : E 152 0 - 1 = cLast (mcup D) := congrArg (fun q : Cv => q.1) h.2.2.2.1
    show w32 (E 152 0 - 1) = _
    rw [e, w32_id (by omega) (by omega)]
  have hH : ∀ {E : DD} {V : Nat → Nat}, MAc D W E V (mcup D) → ∀ g, 0 ≤ g → g < 20 → mD (E, rho n1 V) (mR (E, rho n1 V) 152 4) g = cHole (mcup D) g := fun {E V} h g g0 g1 => by
    rw [← h.2.2.2.1]
    exact (cut_in (n := 20) (f := E 154) g0 g1).symm
  have hho := hm.2.1.2.2.2.2.2.2.2.2.2.2.2.2.2
  refine cB C_misWalk (fun hi => yE (cB C_in (fun hx => yN ⟨rfl, m_whole hi hm h0 hm.2.1 fun F U h ht h41 _ => ?_⟩) (fun hx => nN ⟨_, rfl, no (fun q => hx q.2)⟩))) (fun hi => nE ⟨_, rfl, no (fun q => hi q.1)⟩)
  refine ⟨fun c0 => ?_, fun c0 => ⟨rfl, fun m5 e5 => ?_⟩⟩
  rotate_left
  · have c0 : oSum (zOn (mcup D) (mhl D lw) (wkm D a) 1) = 0 := c0
    have e5 : m5 = (wr F 152 14 0, rho n1 U) := e5
    subst e5
    exact ⟨_, rfl, Was_tell h MTl.beg (by unfold S_few; rw [if_pos ⟨hi, hx⟩, if_pos c0]) (by unfold S_few; rw [if_pos ⟨hi, hx⟩, if_pos c0])⟩
  have n0 : ¬ oSum (zOn (mcup D) (mhl D lw) (wkm D a) 1) = 0 := c0
  have hS : S_few (mcup D) (mhl D lw) (wkm D) a x = if zfirst (zw1 (mcup D) (mhl D lw) (wkm D a) x) (cLast (mcup D)).toNat 0 ≠ -2 then (1, some [zfirst (zw1 (mcup D) (mhl D lw) (wkm D a) x) (cLast (mcup D)).toNat 0])
      else if (zpair (zw2 (mcup D) (mhl D lw) (wkm D a) x) (cLast (mcup D)) (cLast (mcup D)).toNat 0).1 ≠ -2 then (2, some [(zpair (zw2 (mcup D) (mhl D lw) (wkm D a) x) (cLast (mcup D)) (cLast (mcup D)).toNat 0).1, (zpair (zw2 (mcup D) (mhl D lw) (wkm D a) x) (cLast (mcup D)) (cLast (mcup D)).toNat 0).2]) else (-2, none) := by
    unfold S_few
    rw [if_pos ⟨hi, hx⟩, if_neg n0]
  generalize S_few (mcup D) (mhl D lw) (wkm D) a x = S at hS ⊢
  clear no c0 ht h41
  obtain ⟨last, eL⟩ : ∃ last, last = cLast (mcup D) := ⟨_, rfl⟩
  rw [← eL] at hS hcl
  -- two walls
  have two : zfirst (zw1 (mcup D) (mhl D lw) (wkm D a) x) last.toNat 0 = -2 → ∀ (E : DD) (V : Nat → Nat), MAc D W E V (mcup D) → Wp (d + 131) 0 0 mX10_few 126 [some (vr 152), some (vi a), some (vi x), some (vi 0), none, none] [] (E, rho n1 V) (KI (Was n1 D W S)) := by
    intro h1 E V hA
    rw [if_neg (fun q => q h1)] at hS
    refine Wp.loop (σ := Int) (fun i => [some (vr 152), some (vi a), some (vi x), some (vi i), none, none])
      (fun i μ => ∃ (E : DD) (V : Nat → Nat), μ = (E, rho n1 V) ∧ MAc D W E V (mcup D) ∧ 0 ≤ i ∧ i ≤ last ∧ zpair (zw2 (mcup D) (mhl D lw) (wkm D a) x) last last.toNat 0 = zpair (zw2 (mcup D) (mhl D lw) (wkm D a) x) last (last - i).toNat i)
      (fun i => (last - i).toNat) ?_ 0 (E, rho n1 V) ⟨E, V, rfl, hA, by decide, by omega, by rw [show last - 0 = last by omega]⟩
    clear hA
    rintro i μ ⟨E, V, rfl, hA, i0, i1, hv⟩ ih
    refine sg_X10_few_126 ⟨rfl, ?_⟩
    rw [hL hA, ← eL]
    refine ⟨fun c => ⟨_, rfl, Was_no hA ?_ ?_⟩, fun c v e => ?_⟩
    · rw [hS, hv, show (last - i).toNat = 0 by omega]
      rfl
    · rw [hS, hv, show (last - i).toNat = 0 by omega]
      rfl
    rw [w32_id (by omega) (by omega)] at e
    subst e
    have hp : zpair (zw2 (mcup D) (mhl D lw) (wkm D a) x) last (last - i).toNat i = if zfirst (zw2 (mcup D) (mhl D lw) (wkm D a) x i) (last - (i + 1)).toNat (i + 1) = -2 then zpair (zw2 (mcup D) (mhl D lw) (wkm D a) x) last (last - (i + 1)).toNat (i + 1) else (i, zfirst (zw2 (mcup D) (mhl D lw) (wkm D a) x i) (last - (i + 1)).toNat (i + 1)) := by
      rw [show (last - i).toNat = (last - (i + 1)).toNat + 1 by omega]
      rfl
    refine Wp.loop (σ := Int) (fun j => [some (vr 152), some (vi a), some (vi x), some (vi i), some (vi j), none])
      (fun j μ => ∃ (E : DD) (V : Nat → Nat), μ = (E, rho n1 V) ∧ MAc D W E V (mcup D) ∧ i + 1 ≤ j ∧ j ≤ last ∧ zfirst (zw2 (mcup D) (mhl D lw) (wkm D a) x i) (last - (i + 1)).toNat (i + 1) = zfirst (zw2 (mcup D) (mhl D lw) (wkm D a) x i) (last - j).toNat j)
      (fun j => (last - j).toNat) ?_ (i + 1) (E, rho n1 V) ⟨E, V, rfl, hA, Int.le_refl _, by omega, rfl⟩
    clear hA
    rintro j μ ⟨E, V, rfl, hA, j0, j1, hj⟩ ih2
    have hf : j < last → zfirst (zw2 (mcup D) (mhl D lw) (wkm D a) x i) (last - j).toNat j = if zw2 (mcup D) (mhl D lw) (wkm D a) x i j = true then j else zfirst (zw2 (mcup D) (mhl D lw) (wkm D a) x i) (last - (j + 1)).toNat (j + 1) := fun h => by
      rw [show (last - j).toNat = (last - (j + 1)).toNat + 1 by omega]
      rfl
    have skip : j < last → zw2 (mcup D) (mhl D lw) (wkm D a) x i j = false → ∀ (H : DD) (V2 : Nat → Nat), MAc D W H V2 (mcup D) → ∀ v, v = w32 (j + 1) → Wp (d + 131) 0 0 mX10_few 141 [some (vr 152), some (vi a), some (vi x), some (vi i), some (vi v), none] [] (H, rho n1 V2) (KI (Was n1 D W S)) := by
      rintro hj1 hz2 H V2 hA2 v rfl
      rw [w32_id (by omega) (by omega)]
      exact ih2 (j + 1) _ ⟨H, V2, rfl, hA2, by omega, by omega, by rw [hj, hf hj1, hz2]; rfl⟩ (by omega)
    refine sg_X10_few_141 ⟨rfl, ?_⟩
    rw [hL hA, ← eL]
    refine ⟨fun c v e => ?_, fun c => ⟨Or.inl rfl, bnd (N := 20) rfl i0 (by show i < 20; omega), ?_⟩⟩
    · rw [w32_id (by omega) (by omega)] at e
      subst e
      refine ih (i + 1) _ ⟨E, V, rfl, hA, by omega, by omega, ?_⟩ (by omega)
      rw [hv, hp, if_pos (by rw [hj, show (last - j).toNat = 0 by omega]; rfl)]
    have bi' : (0 : Int) ≤ i ∧ i < ((20 : Nat) : Int) := ⟨i0, by omega⟩
    have bj' : (0 : Int) ≤ j ∧ j < ((20 : Nat) : Int) := ⟨by omega, by omega⟩
    rw [hH hA i i0 (by omega), hH hA j (by omega) (by omega)]
    have oi := hho i i0 (by omega)
    have oj := hho j (by omega) (by omega)
    refine ⟨fun c1 => skip (by omega) ?_ E V hA, fun c1 => ⟨bj', fun c2 => ⟨rfl, bi', fun m1 e1 => ?_⟩, fun c2 => skip (by omega) ?_ E V hA⟩⟩
    · unfold zw2
      rw [decide_eq_false (by omega)]
      rfl
    · have e1 : m1 = (wr E 154 i x, rho n1 V) := e1
      subst e1
      refine ⟨bj', fun m2 e2 => ?_⟩
      have e2 : m2 = (wr (wr E 154 i x) 154 j x, rho n1 V) := e2
      subst e2
      have h1' := (hA.hole (k := i) (v := x) i0 (by omega)).hole (k := j) (v := x) (by omega) (by omega)
      have ci : cHole (mcup D) i = 100 := by omega
      have cj : cHole (mcup D) j = 100 := by omega
      have hzz : zw2 (mcup D) (mhl D lw) (wkm D a) x i j = decide (oSum (zOn (zHole (zHole (mcup D) i x) j x) (mhl D lw) (wkm D a) 1) = 0) := by
        unfold zw2
        rw [decide_eq_true ci, decide_eq_true cj]
        rfl
      have back : ∀ {H : DD} {V2 : Nat → Nat}, MAc D W H V2 (zHole (zHole (mcup D) i x) j x) → MAc D W (wr (wr H 154 i 100) 154 j 100) V2 (mcup D) := fun {H V2} h => by
        refine ((h.hole (k := i) (v := 100) i0 (by omega)).hole (k := j) (v := 100) (by omega) (by omega)).eq ?_
        have e : zu (zu (zu (zu (cHole (mcup D)) i x) j x) i 100) j 100 = cHole (mcup D) := by
          funext g
          unfold zu
          by_cases g1 : g = j
          · rw [if_pos g1, g1, cj]
          · rw [if_neg g1]
            by_cases g2 : g = i
            · rw [if_pos g2, g2, ci]
            · rw [if_neg g2, if_neg g1, if_neg g2]
        show (_, _, _, _, zu (zu (zu (zu (cHole (mcup D)) i x) j x) i 100) j 100) = mcup D
        rw [e]
        rfl
      refine m_whole hi hm h1' (COK_hole (COK_hole hm.2.1 hx.1 (by omega)) hx.1 (by omega)) fun F2 U2 h2 ht2 h412 _ => ⟨fun c3 => ⟨rfl, rfl, bi', fun m4 e4 => ?_⟩, fun c3 => ⟨rfl, rfl, bi', fun m4 e4 => ?_⟩⟩
      · have c3 : ¬ oSum (zOn (zHole (zHole (mcup D) i x) j x) (mhl D lw) (wkm D a) 1) = 0 := c3
        have e4 : m4 = (wr F2 154 i 100, rho n1 U2) := e4
        subst e4
        refine ⟨bj', fun m5 e5 => ?_⟩
        have e5 : m5 = (wr (wr F2 154 i 100) 154 j 100, rho n1 U2) := e5
        subst e5
        refine ⟨fun c => absurd rfl c, fun _ => skip (by omega) ?_ _ U2 (back h2)⟩
        rw [hzz, decide_eq_false c3]
      · have c3 : oSum (zOn (zHole (zHole (mcup D) i x) j x) (mhl D lw) (wkm D a) 1) = 0 := c3
        have e4 : m4 = (wr F2 154 i 100, rho n1 U2) := e4
        subst e4
        refine ⟨bj', fun m5 e5 => ?_⟩
        have e5 : m5 = (wr (wr F2 154 i 100) 154 j 100, rho n1 U2) := e5
        subst e5
        refine ⟨fun _ m6 e6 => ?_, fun c => absurd c (by decide)⟩
        have hb := back h2
        have e6 : m6 = (wr (wr (wr F2 154 i 100) 154 j 100) 152 14 0, rho n1 U2) := e6
        subst e6
        refine cV (C_mtl (MTl.beg (E := wr (wr F2 154 i 100) 154 j 100)) (by decide)) ?_
        rintro m ⟨G1, rfl, g1⟩
        refine ⟨rfl, cV (C_mtl g1 (by simp)) ?_⟩
        rintro m ⟨G2, rfl, g2⟩
        have ez : zfirst (zw2 (mcup D) (mhl D lw) (wkm D a) x i) (last - (i + 1)).toNat (i + 1) = j := by
          rw [hj, hf (by omega), hzz, if_pos (decide_eq_true c3)]
        have ep : zpair (zw2 (mcup D) (mhl D lw) (wkm D a) x) last last.toNat 0 = (i, j) := by
          rw [hv, hp, ez, if_neg (by omega)]
        rw [ep, if_pos (show (i, j).1 ≠ -2 by show i ≠ -2; omega)] at hS
        exact ⟨_, rfl, Was_tell hb g2 (by rw [hS]) (by rw [hS]; rfl)⟩
    · unfold zw2
      rw [decide_eq_false (show ¬ cHole (mcup D) j = 100 by omega), Bool.and_false]
      rfl
  -- one wall
  refine Wp.loop (σ := Int) (fun i => [some (vr 152), some (vi a), some (vi x), some (vi i), none, none])
    (fun i μ => ∃ (E : DD) (V : Nat → Nat), μ = (E, rho n1 V) ∧ MAc D W E V (mcup D) ∧ 0 ≤ i ∧ i ≤ last ∧ zfirst (zw1 (mcup D) (mhl D lw) (wkm D a) x) last.toNat 0 = zfirst (zw1 (mcup D) (mhl D lw) (wkm D a) x) (last - i).toNat i)
    (fun i => (last - i).toNat) ?_ 0 (F, rho n1 U) ⟨F, U, rfl, h, by decide, by omega, by rw [show last - 0 = last by omega]⟩
  clear h
  rintro i μ ⟨E, V, rfl, hA, i0, i1, hv⟩ ih
  have hf : i < last → zfirst (zw1 (mcup D) (mhl D lw) (wkm D a) x) (last - i).toNat i = if zw1 (mcup D) (mhl D lw) (wkm D a) x i = true then i else zfirst (zw1 (mcup D) (mhl D lw) (wkm D a) x) (last - (i + 1)).toNat (i + 1) := fun h => by
    rw [show (last - i).toNat = (last - (i + 1)).toNat + 1 by omega]
    rfl
  have skip : i < last → zw1 (mcup D) (mhl D lw) (wkm D a) x i = false → ∀ (H : DD) (V2 : Nat → Nat), MAc D W H V2 (mcup D) → ∀ v, v = w32 (i + 1) → Wp (d + 131) 0 0 mX10_few 42 [some (vr 152), some (vi a), some (vi x), some (vi v), none, none] [] (H, rho n1 V2) (KI (Was n1 D W S)) := by
    rintro hi1 hz1 H V2 hA2 v rfl
    rw [w32_id (by omega) (by omega)]
    exact ih (i + 1) _ ⟨H, V2, rfl, hA2, by omega, by omega, by rw [hv, hf hi1, hz1]; rfl⟩ (by omega)
  refine sg_X10_few_42 ⟨rfl, ?_⟩
  rw [hL hA, ← eL]
  refine ⟨fun c => two (by rw [hv, show (last - i).toNat = 0 by omega]; rfl) E V hA, fun c => ⟨Or.inl rfl, bnd (N := 20) rfl i0 (by show i < 20; omega), ?_⟩⟩
  have bi' : (0 : Int) ≤ i ∧ i < ((20 : Nat) : Int) := ⟨i0, by omega⟩
  rw [hH hA i i0 (by omega)]
  have oi := hho i i0 (by omega)
  refine ⟨fun c2 => ⟨rfl, bi', fun m1 e1 => ?_⟩, fun c2 => skip (by omega) ?_ E V hA⟩
  · have e1 : m1 = (wr E 154 i x, rho n1 V) := e1
    subst e1
    have h1' := hA.hole (k := i) (v := x) i0 (by omega)
    have ci : cHole (mcup D) i = 100 := by omega
    have hzz : zw1 (mcup D) (mhl D lw) (wkm D a) x i = decide (oSum (zOn (zHole (mcup D) i x) (mhl D lw) (wkm D a) 1) = 0) := by
      unfold zw1
      rw [decide_eq_true ci]
      rfl
    have back : ∀ {H : DD} {V2 : Nat → Nat}, MAc D W H V2 (zHole (mcup D) i x) → MAc D W (wr H 154 i 100) V2 (mcup D) := fun {H V2} h => by
      refine (h.hole (k := i) (v := 100) i0 (by omega)).eq ?_
      have := zHole_back (c := mcup D) (k := i) (v := x)
      rw [ci] at this
      exact this
    refine m_whole hi hm h1' (COK_hole hm.2.1 hx.1 (by omega)) fun F2 U2 h2 ht2 h412 _ => ⟨fun c3 => ⟨rfl, rfl, bi', fun m4 e4 => ?_⟩, fun c3 => ⟨rfl, rfl, bi', fun m4 e4 => ?_⟩⟩
    · have c3 : ¬ oSum (zOn (zHole (mcup D) i x) (mhl D lw) (wkm D a) 1) = 0 := c3
      have e4 : m4 = (wr F2 154 i 100, rho n1 U2) := e4
      subst e4
      refine ⟨fun c => absurd rfl c, fun _ => skip (by omega) ?_ _ U2 (back h2)⟩
      rw [hzz, decide_eq_false c3]
    · have c3 : oSum (zOn (zHole (mcup D) i x) (mhl D lw) (wkm D a) 1) = 0 := c3
      have e4 : m4 = (wr F2 154 i 100, rho n1 U2) := e4
      subst e4
      refine ⟨fun _ m6 e6 => ?_, fun c => absurd c (by decide)⟩
      have hb := back h2
      have e6 : m6 = (wr (wr F2 154 i 100) 152 14 0, rho n1 U2) := e6
      subst e6
      have ez : zfirst (zw1 (mcup D) (mhl D lw) (wkm D a) x) last.toNat 0 = i := by
        rw [hv, hf (by omega), hzz, if_pos (decide_eq_true c3)]
      rw [ez, if_pos (show i ≠ -2 by omega)] at hS
      refine m_tell1 hb (S := S) (x := 1) (by rw [hS]) (by rw [hS]) (fun m hm' => ⟨_, rfl, hm'⟩)
  · unfold zw1
    rw [decide_eq_false (show ¬ cHole (mcup D) i = 100 by omega)]
    rfl
end MA3
