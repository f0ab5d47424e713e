/-! ===== the model's other calls: cell, of, gives, go, stir, keep, again, count, row ===== -/
/-- an answer, or that there is none -/
def Lost (o : Option Int) (x : Int) (D' : DD) : Prop := (∃ v, o = some v ∧ x = v ∧ D' 152 15 = 0) ∨ (o = none ∧ D' 152 15 = 1)
def mkF (i : Int) (q : Nat) (j : Int) : Prop := (q = 152 ∧ (j = 15 ∨ j = 46)) ∨ ((q = 191 ∨ q = 192) ∧ j = i) ∨ (q = 177 ∧ 105 * i ≤ j ∧ j < 105 * i + 105)
section MRE
variable {d n1 : Nat} {W V : Nat → Nat} {D E : DD} {lw : Int → Option (List Int)} {c : Cv}
theorem C_mlost : Cl d 0 0 mX10_lost [vr 152] (E, rho n1 W) (KI (fun x m => m = (wr E 152 15 1, rho n1 W))) :=
  Cl_of mb_X10_lost (Nat.le_of_ble_eq_true rfl) (sg_X10_lost_0 ⟨rfl, fun m1 e1 => ⟨_, rfl, e1⟩⟩)
theorem mrow_sRow {r : Int} (hr : 0 ≤ r ∧ r ≤ 1) : mrow D r = sRow (mst D) r := by
  unfold sRow
  by_cases q : r = 0
  · rw [if_pos q, q]
    rfl
  · rw [if_neg q, show r = 1 by omega]
    rfl
theorem C_mcell {r i w : Int} (hb : MB D) : Cl (d + 1) 0 0 mX10_cell [vr 152, vi r, vi i, vi w] (D, rho n1 W) (KI (fun x m => ∃ D', m = (D', rho n1 W) ∧ Fr (fun q j => q = 152 ∧ j = 15) D D' ∧ Lost (zcell (mcup D) (mst D) r i w) x D')) := by
  refine Cl_of mb_X10_cell (Nat.le_of_ble_eq_true rfl) (sg_X10_cell_0 ⟨rfl, fun m1 e1 => ?_⟩)
  obtain ⟨E, hE, fE, a15, cE, sE⟩ := m0 D
  have e1 : m1 = (E, rho n1 W) := by rw [hE]; exact e1
  subst e1
  have hcl : cLast (mcup D) = D 152 0 - 1 := rfl
  obtain ⟨b0, b1⟩ := hb
  have wl : w32 (mD (E, rho n1 W) 152 0 - 1) = cLast (mcup D) := by
    rw [show mD (E, rho n1 W) 152 0 = D 152 0 from fE 152 0 (by omega), hcl]
    exact w32_id (by omega) (by omega)
  have bad : ¬ ((0 ≤ r ∧ r ≤ 1) ∧ (0 ≤ i ∧ i ≤ cLast (mcup D)) ∧ (0 ≤ w ∧ w ≤ 1)) → Wp (d + 1) 0 0 mX10_cell 37 [some (vr 152), some (vi r), some (vi i), some (vi w)] [] (E, rho n1 W) (KI (fun x m => ∃ D', m = (D', rho n1 W) ∧ Fr (fun q j => q = 152 ∧ j = 15) D D' ∧ Lost (zcell (mcup D) (mst D) r i w) x D')) := by
    intro hn
    refine sg_X10_cell_37 ⟨rfl, cI (C_mlost (E := E)) ?_⟩
    rintro x m rfl
    exact ⟨_, rfl, _, rfl, fE.wr ⟨rfl, rfl⟩, Or.inr ⟨if_neg hn, wr_at⟩⟩
  refine cB C_in (fun hr => yE ⟨rfl, ?_⟩) (fun hr => nE (bad (fun q => hr q.1)))
  rw [wl]
  refine cB C_in (fun hi => yE (cB C_in (fun hw => yN ?_) (fun hw => nN (bad (fun q => hw q.2.2))))) (fun hi => nE (bad (fun q => hi q.2.1)))
  have wx : w32 (w32 (20 * r) + i) = 20 * r + i := by rw [w32_id (x := 20 * r) (by omega) (by omega), w32_id (by omega) (by omega)]
  have bx : (0 : Int) ≤ 20 * r + i ∧ 20 * r + i < ((40 : Nat) : Int) := ⟨by omega, by omega⟩
  have hz : zcell (mcup D) (mst D) r i w = some (if w = 0 then (sRow (mst D) r).1 i else if i < cLast (mcup D) then (sRow (mst D) r).2.1 i else 0) := if_pos ⟨hr, hi, hw⟩
  have ok : ∀ x, x = (if w = 0 then (sRow (mst D) r).1 i else if i < cLast (mcup D) then (sRow (mst D) r).2.1 i else 0) → KI (fun x m => ∃ D', m = (D', rho n1 W) ∧ Fr (fun q j => q = 152 ∧ j = 15) D D' ∧ Lost (zcell (mcup D) (mst D) r i w) x D') (some (some (vi x))) (E, rho n1 W) := fun x hx => ⟨_, rfl, E, rfl, fE, Or.inl ⟨_, hz, hx, a15⟩⟩
  rw [wl, wx]
  refine ⟨fun w0 => ⟨rfl, fun ni => ⟨Or.inl rfl, bx, ok _ ?_⟩, fun ei => ok _ ?_⟩, fun w0 => ⟨rfl, Or.inl rfl, bx, ok _ ?_⟩⟩
  · rw [if_neg w0, if_pos (by omega), ← mrow_sRow hr]
    show E 156 (20 * r + i) = cut 20 (fun k => D 156 (20 * r + k)) i
    rw [cut_in (by omega) (by omega), fE 156 _ (by omega)]
  · rw [if_neg w0, if_neg (by omega)]
  · rw [if_pos w0, ← mrow_sRow hr]
    show E 155 (20 * r + i) = cut 20 (fun k => D 155 (20 * r + k)) i
    rw [cut_in (by omega) (by omega), fE 155 _ (by omega)]
theorem C_mof {r w : Int} (hb : MB D) : Cl (d + 1) 0 0 mX10_of [vr 152, vi r, vi w] (D, rho n1 W) (KI (fun x m => ∃ D', m = (D', rho n1 W) ∧ Fr (fun q j => q = 152 ∧ j = 15) D D' ∧ Lost (zof (mcup D) (mst D) r w) x D')) := by
  refine Cl_of mb_X10_of (Nat.le_of_ble_eq_true rfl) (sg_X10_of_0 ⟨rfl, fun m1 e1 => ?_⟩)
  obtain ⟨E, hE, fE, a15, cE, sE⟩ := m0 D
  have e1 : m1 = (E, rho n1 W) := by rw [hE]; exact e1
  subst e1
  have hcl : cLast (mcup D) = D 152 0 - 1 := rfl
  obtain ⟨b0, b1⟩ := hb
  have bad : ¬ ((0 ≤ r ∧ r ≤ 1) ∧ (0 ≤ w ∧ w ≤ 3)) → Wp (d + 1) 0 0 mX10_of 23 [some (vr 152), some (vi r), some (vi w), none, none, none] [] (E, rho n1 W) (KI (fun x m => ∃ D', m = (D', rho n1 W) ∧ Fr (fun q j => q = 152 ∧ j = 15) D D' ∧ Lost (zof (mcup D) (mst D) r w) x D')) := by
    intro hn
    refine sg_X10_of_23 ⟨rfl, cI (C_mlost (E := E)) ?_⟩
    rintro x m rfl
    exact ⟨_, rfl, _, rfl, fE.wr ⟨rfl, rfl⟩, Or.inr ⟨if_neg hn, wr_at⟩⟩
  refine cB C_in (fun hr => yE (cB C_in (fun hw => yN ?_) (fun hw => nN (bad (fun q => hw q.2))))) (fun hr => nE (bad (fun q => hr q.1)))
  have hz : zof (mcup D) (mst D) r w = some (if w = 0 then zslope (mcup D) (sRow (mst D) r) else if w = 1 then (sRow (mst D) r).2.2 else if w = 2 then zcon (sRow (mst D) r).1 (cLast (mcup D) + 1).toNat else zgreat (sRow (mst D) r).1 (cLast (mcup D) + 1).toNat) := if_pos ⟨hr, hw⟩
  have ok : ∀ x, x = (if w = 0 then zslope (mcup D) (sRow (mst D) r) else if w = 1 then (sRow (mst D) r).2.2 else if w = 2 then zcon (sRow (mst D) r).1 (cLast (mcup D) + 1).toNat else zgreat (sRow (mst D) r).1 (cLast (mcup D) + 1).toNat) → KI (fun x m => ∃ D', m = (D', rho n1 W) ∧ Fr (fun q j => q = 152 ∧ j = 15) D D' ∧ Lost (zof (mcup D) (mst D) r w) x D') (some (some (vi x))) (E, rho n1 W) := fun x hx => ⟨_, rfl, E, rfl, fE, Or.inl ⟨_, hz, hx, a15⟩⟩
  have a0 : mD (E, rho n1 W) 152 0 = cLast (mcup D) + 1 := by
    rw [show mD (E, rho n1 W) 152 0 = D 152 0 from fE 152 0 (by omega), hcl]
    omega
  obtain ⟨R, hR⟩ : ∃ R, R = sRow (mst D) r := ⟨_, rfl⟩
  have hR' : R = mrow D r := by rw [hR, mrow_sRow hr]
  rw [← hR] at ok
  have hh : ∀ k, 0 ≤ k → k < 20 → E 155 (20 * r + k) = R.1 k := fun k a b => by
    rw [fE 155 _ (by omega), hR']
    exact (cut_in (n := 20) (f := fun k => D 155 (20 * r + k)) a b).symm
  refine Wp.loop (σ := (Int × Int) × Int) (fun σ => [some (vr 152), some (vi r), some (vi w), some (vi σ.1.1), some (vi σ.1.2), some (vi σ.2)])
    (fun σ μ => μ = (E, rho n1 W) ∧ 0 ≤ σ.2 ∧ σ.2 ≤ cLast (mcup D) + 1 ∧ σ.1.1 = zcon R.1 σ.2.toNat ∧ σ.1.2 = zgreat R.1 σ.2.toNat)
    (fun σ => (cLast (mcup D) + 1 - σ.2).toNat) ?_ ((0, 0), 0) _ ⟨rfl, by decide, by dsimp only; omega, rfl, rfl⟩
  rintro ⟨⟨al, mo⟩, k⟩ μ ⟨rfl, k0, k1, h1, h2⟩ ih
  dsimp only at k0 k1 h1 h2 ih ⊢
  have w20 : w32 (20 * r) = 20 * r := w32_id (by omega) (by omega)
  refine sg_X10_of_36 ⟨rfl, ?_⟩
  rw [a0, w20]
  refine ⟨fun c => ?_, fun c => ⟨Or.inl rfl, ?_⟩⟩
  · have ek : k.toNat = (cLast (mcup D) + 1).toNat := by omega
    rw [ek] at h1 h2
    refine ⟨fun n0 => ⟨fun n1 => ⟨fun n2 => ok _ ?_, fun e2 => ok _ ?_⟩, fun e1 => ⟨Or.inl rfl, bnd (N := 2) rfl hr.1 (by omega), ok _ ?_⟩⟩, fun e0 => ⟨Or.inl rfl, bnd (N := 40) rfl (by omega) (by show 20 * r < 40; omega), ?_⟩⟩
    · rw [if_neg n0, if_neg n1, if_neg n2, h2]
    · rw [if_neg n0, if_neg n1, if_pos e2, h1]
    · rw [if_neg n0, if_pos e1, hR']
      exact fE 157 r (by omega)
    · have wx : w32 (w32 (20 * r + (cLast (mcup D) + 1)) - 1) = 20 * r + cLast (mcup D) := by rw [w32_id (x := 20 * r + (cLast (mcup D) + 1)) (by omega) (by omega), w32_id (by omega) (by omega)]; omega
      rw [wx]
      refine ⟨bnd (N := 40) rfl (by omega) (by show 20 * r + cLast (mcup D) < 40; omega), ok _ ?_⟩
      rw [if_pos e0]
      have x0 := hh 0 (by decide) (by decide)
      rw [Int.add_zero] at x0
      show w32 (E 155 (20 * r) - E 155 (20 * r + cLast (mcup D))) = w32 (R.1 0 - R.1 (cLast (mcup D)))
      rw [x0, hh (cLast (mcup D)) (by omega) (by omega)]
  · have wx : w32 (20 * r + k) = 20 * r + k := w32_id (by omega) (by omega)
    have hk : mD (E, rho n1 W) (mR (E, rho n1 W) 152 6) (20 * r + k) = R.1 k := hh k k0 (by omega)
    rw [wx, hk]
    refine ⟨bnd (N := 40) rfl (by omega) (by show 20 * r + k < 40; omega), fun v1 ev => ⟨bnd (N := 40) rfl (by omega) (by show 20 * r + k < 40; omega), cP C_max fun v2 e2 => ?_⟩⟩
    rw [w32_id (by omega) (by omega)] at e2
    subst e2
    have ekk : ((k.toNat : Nat) : Int) = k := by omega
    refine ih ((v1, _), k + 1) _ ⟨rfl, by dsimp only; omega, by dsimp only; omega, ?_, ?_⟩ (by dsimp only; omega)
    · dsimp only
      rw [show (k + 1).toNat = k.toNat + 1 by omega, ev, h1]
      show _ = w32 (zcon R.1 k.toNat + R.1 ((k.toNat : Nat) : Int))
      rw [ekk]
    · dsimp only
      rw [show (k + 1).toNat = k.toNat + 1 by omega, h2]
      show _ = max (zgreat R.1 k.toNat) (R.1 ((k.toNat : Nat) : Int))
      rw [ekk]
theorem C_mgives {l push : Int} (hm : MRun D lw) : Cl (d + 129) 0 0 mX10_gives [vr 152, vi l, vi push] (D, rho n1 W) (KI (fun x m => ∃ (D' : DD) (V : Nat → Nat), m = (D', rho n1 V) ∧ V12 W V ∧ Fr (fun q j => byF q j ∨ (q = 152 ∧ j = 15)) D D' ∧ Lost (zgives (mcup D) lw (mst D) l push) x D')) := by
  refine Cl_of mb_X10_gives (Nat.le_of_ble_eq_true rfl) (sg_X10_gives_0 ⟨rfl, fun m1 e1 => ?_⟩)
  obtain ⟨E, hE⟩ : ∃ E, E = wr D 152 15 0 := ⟨_, rfl⟩
  have e1 : m1 = (E, rho n1 W) := by rw [hE]; exact e1
  subst e1
  have h0 : MAc D W E W (mcup D) := MAc.beg hE
  have hmE := h0.mr hm hm.2.1
  have hLE := hmE.2.2.2.1
  have fE : Fr (fun q j => byF q j ∨ (q = 152 ∧ j = 15)) D E := by
    rw [hE]
    exact Fr.refl.wr (Or.inr ⟨rfl, rfl⟩)
  have bad : ¬ ((lw l).isSome = true ∧ (-500 ≤ push ∧ push ≤ 500)) → Wp (d + 129) 0 0 mX10_gives 35 [some (vr 152), some (vi l), some (vi push)] [] (E, rho n1 W) (KI (fun x m => ∃ (D' : DD) (V : Nat → Nat), m = (D', rho n1 V) ∧ V12 W V ∧ Fr (fun q j => byF q j ∨ (q = 152 ∧ j = 15)) D D' ∧ Lost (zgives (mcup D) lw (mst D) l push) x D')) := by
    intro hn
    refine sg_X10_gives_35 ⟨rfl, cI (C_mlost (E := E)) ?_⟩
    rintro x m rfl
    exact ⟨_, rfl, _, W, rfl, V12.refl, fE.wr (Or.inr ⟨rfl, rfl⟩), Or.inr ⟨if_neg hn, wr_at⟩⟩
  have c5 : E 153 5 = cSet (mcup D) 5 := by
    rw [← h0.2.2.2.1]
    exact (cut_in (n := 7) (f := E 153) (k := 5) (by decide) (by decide)).symm
  refine cB (C_misLaw (D := E)) (fun hl => yE (cB C_in (fun hp => yE ⟨rfl, cI (C_mbyHand (D := E) (lw := lw) (l := l) (push := push) hmE.1 hmE.2.2.1.2.2 (by rw [c5]; exact hm.2.1.late) hLE) ?_⟩) (fun hp => nE (bad (fun q => hp q.2))))) (fun hl => nE (bad (fun q => hl (hLE.is.mp q.1))))
  rintro x m ⟨hx, G, V, rfl, hV, fG⟩
  rw [h0.2.2.2.1, h0.2.2.1] at hx
  refine ⟨_, rfl, G, V, rfl, hV, fE.trans (fG.mono (fun q j z => Or.inl z)), Or.inl ⟨_, if_pos ⟨hLE.is.mpr hl, hp⟩, hx, ?_⟩⟩
  rw [fG 152 15 (by unfold byF; omega)]
  exact h0.2.2.2.2.1
theorem C_mgo {a fr n : Int} (hm : MRun D lw) (ht : sTick (mst D) ≤ 1000000) : Cl (d + 130) 0 0 mX10_go [vr 152, vi a, vi fr, vi n] (D, rho n1 W) (KI (fun x m => ∃ (D' : DD) (V : Nat → Nat), m = (D', rho n1 V) ∧ V12 W V ∧ Fr (fun q j => mgF q j ∨ (q = 152 ∧ j = 15)) D D' ∧ D' 152 15 = 0 ∧ (((0 ≤ a ∧ a ≤ 3) ∧ (0 ≤ fr ∧ fr ≤ 1000) ∧ (0 ≤ n ∧ n ≤ 1000)) ∧ x = zSum (zgoZ (mcup D) (mhl D lw) (wkm D a) (mst D) fr n) ∧ mst D' = zS (zgoZ (mcup D) (mhl D lw) (wkm D a) (mst D) fr n) ∨ ¬ ((0 ≤ a ∧ a ≤ 3) ∧ (0 ≤ fr ∧ fr ≤ 1000) ∧ (0 ≤ n ∧ n ≤ 1000)) ∧ x = -1 ∧ mst D' = mst D))) := by
  refine Cl_of mb_X10_go (Nat.le_of_ble_eq_true rfl) (sg_X10_go_0 ⟨rfl, fun m1 e1 => ?_⟩)
  obtain ⟨E, hE⟩ : ∃ E, E = wr D 152 15 0 := ⟨_, rfl⟩
  have e1 : m1 = (E, rho n1 W) := by rw [hE]; exact e1
  subst e1
  have h0 : MAc D W E W (mcup D) := MAc.beg hE
  have fE : Fr (fun q j => mgF q j ∨ (q = 152 ∧ j = 15)) D E := by
    rw [hE]
    exact Fr.refl.wr (Or.inr ⟨rfl, rfl⟩)
  have bad : ¬ ((0 ≤ a ∧ a ≤ 3) ∧ (0 ≤ fr ∧ fr ≤ 1000) ∧ (0 ≤ n ∧ n ≤ 1000)) → KI (fun x m => ∃ (D' : DD) (V : Nat → Nat), m = (D', rho n1 V) ∧ V12 W V ∧ Fr (fun q j => mgF q j ∨ (q = 152 ∧ j = 15)) D D' ∧ D' 152 15 = 0 ∧ (((0 ≤ a ∧ a ≤ 3) ∧ (0 ≤ fr ∧ fr ≤ 1000) ∧ (0 ≤ n ∧ n ≤ 1000)) ∧ x = zSum (zgoZ (mcup D) (mhl D lw) (wkm D a) (mst D) fr n) ∧ mst D' = zS (zgoZ (mcup D) (mhl D lw) (wkm D a) (mst D) fr n) ∨ ¬ ((0 ≤ a ∧ a ≤ 3) ∧ (0 ≤ fr ∧ fr ≤ 1000) ∧ (0 ≤ n ∧ n ≤ 1000)) ∧ x = -1 ∧ mst D' = mst D)) (some (some (vi (-1)))) (E, rho n1 W) := fun hn => ⟨_, rfl, E, W, rfl, V12.refl, fE, h0.2.2.2.2.1, Or.inr ⟨hn, rfl, h0.2.2.1⟩⟩
  refine cB C_misWalk (fun ha => yE (cB C_in (fun hf => yE (cB C_in (fun hn => yN ⟨rfl, cV (C_mwatch (D := E)) ?_⟩) (fun hn => nN (bad (fun q => hn q.2.2))))) (fun hf => nE (bad (fun q => hf q.2.1))))) (fun ha => nE (bad (fun q => ha q.1)))
  rintro m ⟨G, rfl, fG, w40, w41, w42, w44⟩
  have sG : mst G = mst D := by rw [mst_fr fG (by unfold wtF; omega) (by unfold wtF; omega) (fun q j x y => by unfold wtF; omega), h0.2.2.1]
  have cG : mcup G = mcup D := by rw [mcup_fr fG (fun j x y => by unfold wtF; omega) (fun q j x y => by unfold wtF; omega), h0.2.2.2.1]
  have hmG : MRun G lw := (h0.mr hm hm.2.1).mr (fG.mono (fun q j z => by unfold wtF at z; unfold mrF mgF; omega)) (by rw [sG]; exact hm.2.2.1)
  have wG : wkm G a = wkm D a := by rw [wkm_fr fG (fun q j x y => by unfold wtF; omega), h0.wk a]
  have lG : mhl G lw = mhl D lw := by unfold mhl; rw [cG]
  have tG : G 161 a = D 161 a := by rw [fG 161 a (by unfold wtF; omega)]; exact h0.2.1 161 a (by unfold maF; omega)
  have wn : w32 (fr + n) = fr + n := w32_id (by omega) (by omega)
  rw [wn]
  have hW : Wat G (zgo0 (mst D)) := ⟨sG, w40, w42, by rw [w44]; exact lst_0 (by decide), by omega, by omega⟩
  obtain ⟨q1, q2, q3, q4, q5⟩ := hmG
  have hb := hm.2.2.2.2 a ha.1 ha.2
  refine ⟨rfl, cI (C_mgoOn (D := G) (lw := lw) (a := a) (fr := fr) (to := fr + n) (tu := 1001) ha (q5 a ha.1 ha.2) q1 q2 hW ⟨hm.2.2.1, Int.le_refl 0⟩ hf.1 hf.2 (by show (0 : Int) ≤ _; decide) (by show sTick (mst D) ≤ _; omega) q4) ?_⟩
  rintro x m ⟨K, V, rfl, hV, fK, hWK, hS, hx, -⟩
  have ez : zGo G lw a fr (fr + n) 1001 (zgo0 (mst D)) = zgoZ (mcup D) (mhl D lw) (wkm D a) (mst D) fr n := by
    unfold zGo zgoZ
    have hwt : wTicks (wkm D a) = D 161 a := rfl
    rw [cG, wG, tG, hwt, zrun_cap (cap' := 1040) (by show (0 : Nat) + _ ≤ 1050; omega) (by show (0 : Nat) + _ ≤ 1040; omega)]
    exact zrun_t (fun i i0 i1 => bi_0 (by omega))
  rw [ez] at hWK hS
  refine ⟨_, rfl, K, V, rfl, hV, (fE.trans (fG.mono (fun q j z => by unfold wtF at z; unfold mgF; omega))).trans (fK.mono (fun q j z => Or.inl z)), ?_, Or.inl ⟨⟨ha, hf, hn⟩, ?_, hWK.1⟩⟩
  · rw [fK 152 15 (by unfold mgF; omega), fG 152 15 (by unfold wtF; omega)]
    exact h0.2.2.2.2.1
  · exact (sum_is (z := zgo0 (mst D)) rfl hS hx).symm
theorem C_mstir {r : Int} (hb : MB D) : Cl (d + 1) 0 0 mX10_stir [vr 152, vi r] (D, rho n1 W) (KL (fun x m => ∃ D', m = (D', rho n1 W) ∧ Fr (fun q j => q = 152 ∧ j = 15) D D' ∧ D' 152 15 = 0 ∧ x = S_stir (mcup D) (mst D) r)) := by
  refine Cl_of mb_X10_stir (Nat.le_of_ble_eq_true rfl) (sg_X10_stir_0 ⟨rfl, fun m1 e1 => ?_⟩)
  obtain ⟨E, hE, fE, a15, cE, sE⟩ := m0 D
  have e1 : m1 = (E, rho n1 W) := by rw [hE]; exact e1
  subst e1
  have hcl : cLast (mcup D) = D 152 0 - 1 := rfl
  obtain ⟨b0, b1⟩ := hb
  refine cB C_in (fun hr => yN ?_) (fun hr => nN ⟨_, rfl, E, rfl, fE, a15, (if_neg hr).symm⟩)
  have hS : S_stir (mcup D) (mst D) r = zstir (mcup D) (sRow (mst D) r) (cLast (mcup D) + 1).toNat := if_pos hr
  have a0 : mD (E, rho n1 W) 152 0 = cLast (mcup D) + 1 := by
    rw [show mD (E, rho n1 W) 152 0 = D 152 0 from fE 152 0 (by omega), hcl]
    omega
  have a2 : mD (E, rho n1 W) 152 2 = cFill (mcup D) := fE 152 2 (by omega)
  obtain ⟨R, hR⟩ : ∃ R, R = sRow (mst D) r := ⟨_, rfl⟩
  have hR' : R = mrow D r := by rw [hR, mrow_sRow hr]
  rw [← hR] at hS
  have hh : ∀ k, 0 ≤ k → k < 20 → mD (E, rho n1 W) (mR (E, rho n1 W) 152 6) (20 * r + k) = R.1 k ∧ mD (E, rho n1 W) (mR (E, rho n1 W) 152 7) (20 * r + k) = R.2.1 k := fun k a b => by
    rw [hR']
    refine ⟨(fE 155 _ (by omega)).trans (cut_in (n := 20) (f := fun k => D 155 (20 * r + k)) a b).symm, (fE 156 _ (by omega)).trans (cut_in (n := 20) (f := fun k => D 156 (20 * r + k)) a b).symm⟩
  refine Wp.loop (σ := Int × Int) (fun σ => [some (vr 152), some (vi r), some (vl σ.1), none, some (vi σ.2), none, none, none, none])
    (fun σ μ => μ = (E, rho n1 W) ∧ 0 ≤ σ.2 ∧ σ.2 ≤ cLast (mcup D) + 1 ∧ σ.1 = zstir (mcup D) R σ.2.toNat)
    (fun σ => (cLast (mcup D) + 1 - σ.2).toNat) ?_ (0, 0) _ ⟨rfl, by decide, by dsimp only; omega, rfl⟩
  rintro ⟨s, k⟩ μ ⟨rfl, k0, k1, hs⟩ ih
  dsimp only at k0 k1 hs ih ⊢
  have wx : w32 (w32 (20 * r) + k) = 20 * r + k := by rw [w32_id (x := 20 * r) (by omega) (by omega), w32_id (by omega) (by omega)]
  have wl : w32 (cLast (mcup D) + 1 - 1) = cLast (mcup D) := by rw [w32_id (by omega) (by omega)]; omega
  refine sg_X10_stir_23 ⟨rfl, ?_⟩
  rw [a0]
  refine ⟨fun c => ⟨_, rfl, E, rfl, fE, a15, ?_⟩, fun c => ?_⟩
  · rw [hs, hS, show k = cLast (mcup D) + 1 by omega]
  obtain ⟨h1, h2⟩ := hh k k0 (by omega)
  rw [wx, wl, a2, h1, h2]
  have ekk : ((k.toNat : Nat) : Int) = k := by omega
  have stp : zstir (mcup D) R (k + 1).toNat = w64 (s + w64 (w64 (w32 (R.1 k - cFill (mcup D)) * w32 (R.1 k - cFill (mcup D))) + (if cLast (mcup D) ≤ k then w64 (0 * 0) else w64 (w32 ((R.2.1 k).tdiv 8) * w32 ((R.2.1 k).tdiv 8))))) := by
    rw [show (k + 1).toNat = k.toNat + 1 by omega, hs]
    show w64 (_ + w64 (w64 (w32 (R.1 ((k.toNat : Nat) : Int) - _) * _) + (if cLast (mcup D) ≤ ((k.toNat : Nat) : Int) then _ else w64 (w32 ((R.2.1 ((k.toNat : Nat) : Int)).tdiv 8) * _)))) = _
    rw [ekk]
  refine ⟨Or.inl rfl, bnd (N := 40) rfl (by omega) (by show 20 * r + k < 40; omega), fun c2 => ⟨Or.inl rfl, bnd (N := 40) rfl (by omega) (by show 20 * r + k < 40; omega), fun v1 ev => ?_⟩, fun c2 v1 ev => ?_⟩
  · rw [w32_id (by omega) (by omega)] at ev
    subst ev
    exact ih (_, k + 1) _ ⟨rfl, by dsimp only; omega, by dsimp only; omega, by dsimp only; rw [stp, if_neg (by omega)]; rfl⟩ (by dsimp only; omega)
  · rw [w32_id (by omega) (by omega)] at ev
    subst ev
    exact ih (_, k + 1) _ ⟨rfl, by dsimp only; omega, by dsimp only; omega, by dsimp only; rw [stp, if_pos (by omega)]; rfl⟩ (by dsimp only; omega)
theorem C_mkeep {i : Int} : Cl (d + 2) 0 0 mX10_keep [vr 152, vi i] (D, rho n1 W) (KI (fun r m => ∃ D', m = (D', rho n1 W) ∧ Fr (mkF i) D D' ∧ D' 152 15 = 0 ∧ ((0 ≤ i ∧ i ≤ 2) ∧ r = 1 ∧ mkv D' 177 (105 * i) = mst D ∧ D' 191 i = 1 ∧ D' 192 i = D 152 16 ∨ ¬ (0 ≤ i ∧ i ≤ 2) ∧ r = 0 ∧ Fr (fun q j => q = 152 ∧ j = 15) D D'))) := by
  refine Cl_of mb_X10_keep (Nat.le_of_ble_eq_true rfl) (sg_X10_keep_0 ⟨rfl, fun m1 e1 => ?_⟩)
  obtain ⟨E, hE, fE, a15, cE, sE⟩ := m0 D
  have e1 : m1 = (E, rho n1 W) := by rw [hE]; exact e1
  subst e1
  have mE : Fr (mkF i) D E := fE.mono (fun q j z => by unfold mkF; omega)
  refine cB C_in (fun hi => yN ⟨rfl, rfl, bnd (N := 3) rfl hi.1 (by omega), fun m3 e3 => ?_⟩) (fun hi => nN ⟨_, rfl, E, rfl, mE, a15, Or.inr ⟨hi, rfl, fE⟩⟩)
  have e3 : m3 = (wr E 191 i 1, rho n1 W) := e3
  subst e3
  refine ⟨rfl, bnd (N := 3) rfl hi.1 (by omega), fun m4 e4 => ?_⟩
  obtain ⟨B, hB⟩ : ∃ B, B = wr (wr E 191 i 1) 192 i (D 152 16) := ⟨_, rfl⟩
  have e4 : m4 = (B, rho n1 W) := by
    rw [hB, e4, show mD (wr E 191 i 1, rho n1 W) 152 16 = D 152 16 from by show wr E 191 i 1 152 16 = _; rw [wr_o (by decide), fE 152 16 (by omega)]]
    rfl
  subst e4
  have fB : Fr (fun q j => (q = 191 ∨ q = 192) ∧ j = i) E B := by
    rw [hB]
    exact (Fr.refl.wr ⟨Or.inl rfl, rfl⟩).wr ⟨Or.inr rfl, rfl⟩
  have sB : mst B = mst D := by rw [mst_fr fB (by omega) (by omega) (fun q j x y => by omega), sE]
  refine cV (C_mputBy (D := B) (i := i) hi.1 (by omega)) ?_
  rintro m ⟨G, rfl, fG, hG⟩
  refine ⟨_, rfl, G, rfl, (mE.trans (fB.mono (fun q j z => Or.inr (Or.inl z)))).trans (fG.mono (fun q j z => by unfold pkF at z; unfold mkF; omega)), ?_, Or.inl ⟨hi, rfl, by rw [hG, sB], ?_, ?_⟩⟩
  · rw [fG 152 15 (by unfold pkF; omega), fB 152 15 (by omega), a15]
  · rw [fG 191 i (by unfold pkF; omega), hB, wr_o (by decide), wr_at]
  · rw [fG 192 i (by unfold pkF; omega), hB, wr_at]
theorem C_magain {i : Int} : Cl (d + 2) 0 0 mX10_again [vr 152, vi i] (D, rho n1 W) (KI (fun r m => ∃ D', m = (D', rho n1 W) ∧ Fr (fun q j => bbF q j ∨ (q = 152 ∧ j = 15)) D D' ∧ D' 152 15 = 0 ∧ (((0 ≤ i ∧ i ≤ 2) ∧ D 191 i ≠ 0 ∧ D 192 i = D 152 16) ∧ r = 1 ∧ mst D' = mkv D 177 (105 * i) ∨ ¬ ((0 ≤ i ∧ i ≤ 2) ∧ D 191 i ≠ 0 ∧ D 192 i = D 152 16) ∧ r = 0 ∧ mst D' = mst D))) := by
  refine Cl_of mb_X10_again (Nat.le_of_ble_eq_true rfl) (sg_X10_again_0 ⟨rfl, fun m1 e1 => ?_⟩)
  obtain ⟨E, hE, fE, a15, cE, sE⟩ := m0 D
  have e1 : m1 = (E, rho n1 W) := by rw [hE]; exact e1
  subst e1
  have mE : Fr (fun q j => bbF q j ∨ (q = 152 ∧ j = 15)) D E := fE.mono (fun q j z => Or.inr z)
  have q188 : mD (E, rho n1 W) (mR (E, rho n1 W) 152 64) i = D 191 i := fE 191 i (by omega)
  have q189 : mD (E, rho n1 W) (mR (E, rho n1 W) 152 65) i = D 192 i := fE 192 i (by omega)
  have q16 : mD (E, rho n1 W) 152 16 = D 152 16 := fE 152 16 (by omega)
  refine cB C_in (fun hi => yE ⟨rfl, rfl, bnd (N := 3) rfl hi.1 (by omega), ?_⟩) (fun hi => nE ⟨_, rfl, E, rfl, mE, a15, Or.inr ⟨fun q => hi q.1, rfl, sE⟩⟩)
  rw [q188, q189, q16]
  refine ⟨fun c => ⟨_, rfl, E, rfl, mE, a15, Or.inr ⟨fun q => q.2.1 c, rfl, sE⟩⟩, fun c => ⟨Or.inl rfl, bnd (N := 3) rfl hi.1 (by omega), fun c2 => cV (C_mbringBack (D := E) (i := i) hi.1 (by omega)) ?_, fun c2 => ⟨_, rfl, E, rfl, mE, a15, Or.inr ⟨fun q => c2 q.2.2, rfl, sE⟩⟩⟩⟩
  rintro m ⟨G, rfl, fG, hG⟩
  refine ⟨_, rfl, G, rfl, mE.trans (fG.mono (fun q j z => Or.inl z)), by rw [fG 152 15 (by unfold bbF; omega), a15], Or.inl ⟨⟨hi, c, c2⟩, rfl, ?_⟩⟩
  rw [hG]
  exact mkv_ext (fun o a b => fE 177 _ (by omega))
theorem C_mcount {w : Int} (hb : MB D) (hL : MLaw D lw) : Cl d 0 0 mX10_count [vr 152, vi w] (D, rho n1 W) (KI (fun x m => ∃ D', m = (D', rho n1 W) ∧ Fr (fun q j => q = 152 ∧ j = 15) D D' ∧ D' 152 15 = 0 ∧ x = S_count (mcup D) (mst D) lw (D 152 57) (D 152 59) (D 152 14) (D 152 12) w)) := by
  refine Cl_of mb_X10_count (Nat.le_of_ble_eq_true rfl) (sg_X10_count_0 ⟨rfl, fun m1 e1 => ?_⟩)
  obtain ⟨E, hE, fE, a15, cE, sE⟩ := m0 D
  have e1 : m1 = (E, rho n1 W) := by rw [hE]; exact e1
  subst e1
  obtain ⟨b0, b1⟩ := hb
  have q : ∀ j, j ≠ 15 → mD (E, rho n1 W) 152 j = D 152 j := fun j hj => fE 152 j (by omega)
  have hcl : cLast (mcup D) = D 152 0 - 1 := rfl
  have ok : ∀ x, x = S_count (mcup D) (mst D) lw (D 152 57) (D 152 59) (D 152 14) (D 152 12) w → KI (fun x m => ∃ D', m = (D', rho n1 W) ∧ Fr (fun q j => q = 152 ∧ j = 15) D D' ∧ D' 152 15 = 0 ∧ x = S_count (mcup D) (mst D) lw (D 152 57) (D 152 59) (D 152 14) (D 152 12) w) (some (some (vi x))) (E, rho n1 W) := fun x hx => ⟨_, rfl, E, rfl, fE, a15, hx⟩
  refine ⟨fun c => ok _ ?_, fun c => ok _ ?_, fun c => ok _ ?_, fun c => ok _ ?_, fun c => ok _ ?_, fun c => ?_, fun c => ok _ ?_, fun c => ok _ ?_, fun c => ok _ ?_, fun c => ok _ ?_, fun c => ?_⟩
  · unfold S_count
    rw [if_neg (by omega), if_neg (by omega), if_neg (by omega), if_neg (by omega), if_neg (by omega), if_neg (by omega), if_neg (by omega), if_neg (by omega), if_neg (by omega), if_neg (by omega)]
  · unfold S_count
    rw [if_pos c, q 0 (by decide)]
    omega
  · unfold S_count
    rw [if_neg (by omega), if_pos c, q 1 (by decide)]
    rfl
  · unfold S_count
    rw [if_neg (by omega), if_neg (by omega), if_pos c, q 2 (by decide)]
    rfl
  · unfold S_count
    rw [if_neg (by omega), if_neg (by omega), if_neg (by omega), if_pos c, q 5 (by decide)]
    rfl
  · have hS : S_count (mcup D) (mst D) lw (D 152 57) (D 152 59) (D 152 14) (D 152 12) w = zlawbits lw 3 := by
      unfold S_count
      rw [if_neg (by omega), if_neg (by omega), if_neg (by omega), if_neg (by omega), if_pos c]
    rw [hS] at ok
    have zw : ∀ n : Nat, w32 (zlawbits lw n) = zlawbits lw n := fun n => by
      cases n with
      | zero => rfl
      | succ n => exact w32_i _
    rw [show S_count (mcup D) (mst D) lw (D 152 57) (D 152 59) (D 152 14) (D 152 12) w = zlawbits lw 3 from hS]
    refine Wp.loop (σ := Int × Int) (fun σ => [some (vr 152), some (vi w), some (vi σ.1), some (vi σ.2)])
      (fun σ μ => μ = (E, rho n1 W) ∧ 0 ≤ σ.2 ∧ σ.2 ≤ 3 ∧ σ.1 = zlawbits lw σ.2.toNat)
      (fun σ => (3 - σ.2).toNat) ?_ (0, 0) _ ⟨rfl, by decide, by decide, rfl⟩
    rintro ⟨s, k⟩ μ ⟨rfl, k0, k1, hs⟩ ih
    dsimp only at k0 k1 hs ih ⊢
    refine sg_X10_count_86 ⟨fun c2 => ok _ (by rw [hs, show k = 3 by omega]; rfl), fun c2 => ⟨rfl, Or.inl rfl, bnd (N := 3) rfl k0 (by omega), ?_⟩⟩
    rw [show mD (E, rho n1 W) (mR (E, rho n1 W) 152 35) k = D 175 k from fE 175 k (by omega)]
    have ekk : ((k.toNat : Nat) : Int) = k := by omega
    have stp : zlawbits lw (k + 1).toNat = bOr s (if (lw k).isSome = true then bShl 1 k else 0) := by
      rw [show (k + 1).toNat = k.toNat + 1 by omega, hs]
      show bOr _ (if (lw ((k.toNat : Nat) : Int)).isSome = true then bShl 1 ((k.toNat : Nat) : Int) else 0) = _
      rw [ekk]
    refine ⟨fun c3 v1 ev1 v2 ev2 => ?_, fun c3 v1 ev1 v2 ev2 => ?_⟩
    · rw [w32_id (by omega) (by omega)] at ev2
      subst ev2
      refine ih (v1, k + 1) _ ⟨rfl, by dsimp only; omega, by dsimp only; omega, ?_⟩ (by dsimp only; omega)
      dsimp only
      rw [stp, ev1, if_neg (fun z => by have := (hL.is.mp z).2; omega)]
    · rw [w32_id (by omega) (by omega)] at ev2
      subst ev2
      refine ih (v1, k + 1) _ ⟨rfl, by dsimp only; omega, by dsimp only; omega, ?_⟩ (by dsimp only; omega)
      dsimp only
      rw [stp, ev1, if_pos (hL.is.mpr ⟨⟨k0, by omega⟩, by omega⟩)]
  · unfold S_count
    rw [if_neg (by omega), if_neg (by omega), if_neg (by omega), if_neg (by omega), if_neg (by omega), if_pos c, q 57 (by decide)]
  · unfold S_count
    rw [if_neg (by omega), if_neg (by omega), if_neg (by omega), if_neg (by omega), if_neg (by omega), if_neg (by omega), if_pos c, q 59 (by decide)]
  · unfold S_count
    rw [if_neg (by omega), if_neg (by omega), if_neg (by omega), if_neg (by omega), if_neg (by omega), if_neg (by omega), if_neg (by omega), if_pos c, q 14 (by decide)]
  · unfold S_count
    rw [if_neg (by omega), if_neg (by omega), if_neg (by omega), if_neg (by omega), if_neg (by omega), if_neg (by omega), if_neg (by omega), if_neg (by omega), if_pos c, q 12 (by decide)]
  · have hS : S_count (mcup D) (mst D) lw (D 152 57) (D 152 59) (D 152 14) (D 152 12) w = zwc (mcup D) (cLast (mcup D)).toNat := by
      unfold S_count
      rw [if_neg (by omega), if_neg (by omega), if_neg (by omega), if_neg (by omega), if_neg (by omega), if_neg (by omega), if_neg (by omega), if_neg (by omega), if_neg (by omega), if_pos c]
    rw [hS] at ok
    rw [show S_count (mcup D) (mst D) lw (D 152 57) (D 152 59) (D 152 14) (D 152 12) w = zwc (mcup D) (cLast (mcup D)).toNat from hS]
    have wl : w32 (mD (E, rho n1 W) 152 0 - 1) = cLast (mcup D) := by
      rw [q 0 (by decide), hcl]
      exact w32_id (by omega) (by omega)
    refine Wp.loop (σ := Int × Int) (fun σ => [some (vr 152), some (vi w), some (vi σ.1), some (vi σ.2)])
      (fun σ μ => μ = (E, rho n1 W) ∧ 0 ≤ σ.2 ∧ σ.2 ≤ cLast (mcup D) ∧ σ.1 = zwc (mcup D) σ.2.toNat)
      (fun σ => (cLast (mcup D) - σ.2).toNat) ?_ (0, 0) _ ⟨rfl, by decide, by dsimp only; omega, rfl⟩
    rintro ⟨s, k⟩ μ ⟨rfl, k0, k1, hs⟩ ih
    dsimp only at k0 k1 hs ih ⊢
    refine sg_X10_count_140 ⟨rfl, ?_⟩
    rw [wl]
    refine ⟨fun c2 => ok _ (by rw [hs, show k = cLast (mcup D) by omega]), fun c2 => ⟨Or.inl rfl, bnd (N := 20) rfl k0 (by show k < 20; omega), ?_⟩⟩
    have hk : mD (E, rho n1 W) (mR (E, rho n1 W) 152 4) k = cHole (mcup D) k := by
      rw [← cE]
      exact (cut_in (n := 20) (f := E 154) k0 (by omega)).symm
    rw [hk]
    have ekk : ((k.toNat : Nat) : Int) = k := by omega
    have stp : zwc (mcup D) (k + 1).toNat = w32 (s + (if cHole (mcup D) k < 100 then 1 else 0)) := by
      rw [show (k + 1).toNat = k.toNat + 1 by omega, hs]
      show w32 (_ + (if cHole (mcup D) ((k.toNat : Nat) : Int) < 100 then 1 else 0)) = _
      rw [ekk]
    refine ⟨fun c3 v1 ev1 v2 ev2 => ?_, fun c3 v1 ev1 v2 ev2 => ?_⟩
    · rw [w32_id (by omega) (by omega)] at ev2
      subst ev2
      exact ih (v1, k + 1) _ ⟨rfl, by dsimp only; omega, by dsimp only; omega, by dsimp only; rw [stp, ev1, if_neg (by omega)]⟩ (by dsimp only; omega)
    · rw [w32_id (by omega) (by omega)] at ev2
      subst ev2
      exact ih (v1, k + 1) _ ⟨rfl, by dsimp only; omega, by dsimp only; omega, by dsimp only; rw [stp, ev1, if_pos (by omega)]⟩ (by dsimp only; omega)
theorem C_mrow {i : Int} (h0 : 0 ≤ D 152 14) (h1 : D 152 14 ≤ 8) : Cl (d + 1) 0 0 mX10_row [vr 152, vi i] (D, rho n1 W) (KL (fun x m => ∃ D', m = (D', rho n1 W) ∧ Fr (fun q j => q = 152 ∧ j = 15) D D' ∧ Lost (if 0 ≤ i ∧ i ≤ (MTV D).2 - 1 then some ((MTV D).1.getD i.toNat 0) else none) x D')) := by
  refine Cl_of mb_X10_row (Nat.le_of_ble_eq_true rfl) (sg_X10_row_0 ⟨rfl, fun m1 e1 => ?_⟩)
  obtain ⟨E, hE, fE, a15, cE, sE⟩ := m0 D
  have e1 : m1 = (E, rho n1 W) := by rw [hE]; exact e1
  subst e1
  have w1 : w32 (mD (E, rho n1 W) 152 14 - 1) = D 152 14 - 1 := by
    rw [show mD (E, rho n1 W) 152 14 = D 152 14 from fE 152 14 (by omega)]
    exact w32_id (by omega) (by omega)
  rw [w1]
  refine cB C_in (fun hi => yE ⟨rfl, rfl, bnd (N := 8) rfl hi.1 (by show i < 8; omega), _, rfl, E, rfl, fE, Or.inl ⟨_, if_pos hi, ?_, a15⟩⟩) (fun hi => nE ⟨rfl, cI (C_mlost (E := E)) ?_⟩)
  · show E 160 i = (lst (D 160) (D 152 14)).getD i.toNat 0
    unfold lst
    rw [List.getD_eq_getElem?_getD, List.getElem?_map, List.getElem?_range (by omega), fE 160 i (by omega)]
    show _ = D 160 ((i.toNat : Nat) : Int)
    rw [show ((i.toNat : Nat) : Int) = i by omega]
  · rintro x m rfl
    exact ⟨_, rfl, _, rfl, fE.wr ⟨rfl, rfl⟩, Or.inr ⟨if_neg hi, wr_at⟩⟩
end MRE
