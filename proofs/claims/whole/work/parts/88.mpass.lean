/-! ===== a TICK of the model ===== -/
def mpF (r : Int) (q : Nat) (j : Int) : Prop := mlF r q j ∨ (q = 157 ∧ j = r)
def mpsF (q : Nat) (j : Int) : Prop := (q = 152 ∧ j = 5) ∨ (155 ≤ q ∧ q ≤ 158)
section MPA
variable {d n1 : Nat} {W : Nat → Nat} {D : DD}
theorem mrow_join {r push x1 x2 : Int} {D1 D2 D3 : DD} (hr : r = 0 ∨ r = 1) (l0 : 2 ≤ D 152 0) (l1 : D 152 0 ≤ 20) (f1 : Fr (mlF r) D D1)
    (m1 : Mrw D1 r (zmv (cLast (mcup D)).toNat ((mrow D r).1, drv (cLast (mcup D)) (cSet (mcup D) 0) (dless (cSet (mcup D))) push (mrow D r).1 (mrow D r).2.1 (cHole (mcup D)))).1
        (zmv (cLast (mcup D)).toNat ((mrow D r).1, drv (cLast (mcup D)) (cSet (mcup D) 0) (dless (cSet (mcup D))) push (mrow D r).1 (mrow D r).2.1 (cHole (mcup D)))).2)
    (f2 : Fr (fun q j => (q = 155 ∧ j = 20 * r + 0) ∨ (q = 157 ∧ j = r)) D1 D2) (ex1 : x1 = zov (fun j => D1 155 (20 * r + j)) (D1 152 1) (D1 153 4) 0) (a1 : D2 155 (20 * r + 0) = w32 (D1 155 (20 * r + 0) - x1)) (b1 : D2 157 r = w32 (D1 157 r + x1))
    (f3 : Fr (fun q j => (q = 155 ∧ j = 20 * r + cLast (mcup D)) ∨ (q = 157 ∧ j = r)) D2 D3) (ex2 : x2 = zov (fun j => D2 155 (20 * r + j)) (D2 152 1) (D2 153 4) (cLast (mcup D))) (a2 : D3 155 (20 * r + cLast (mcup D)) = w32 (D2 155 (20 * r + cLast (mcup D)) - x2)) (b2 : D3 157 r = w32 (D2 157 r + x2)) :
    Fr (mpF r) D D3 ∧ w32 (x1 + x2) = (zrow (mcup D) push (mrow D r)).1 ∧ mrow D3 r = (zrow (mcup D) push (mrow D r)).2 := by
  have hc : cLast (mcup D) = D 152 0 - 1 := rfl
  have fr : Fr (mpF r) D D3 := ((f1.mono (fun q j z => (Or.inl z : mpF r q j))).trans (f2.mono (fun q j z => (by unfold mpF mlF; omega : mpF r q j)))).trans (f3.mono (fun q j z => (by unfold mpF mlF; omega : mpF r q j)))
  have hz := zpass_cut (h := fun k => D 155 (20 * r + k)) (f := fun k => D 156 (20 * r + k)) (ho := D 154) (last := cLast (mcup D)) (rim := cRim (mcup D)) (lid := cSet (mcup D) 4) (sf := cSet (mcup D) 0) (less := dless (cSet (mcup D))) (push := push) (by omega) (by omega)
  change zpass (cLast (mcup D)) (cRim (mcup D)) (cSet (mcup D) 4) (cSet (mcup D) 0) (dless (cSet (mcup D))) push (mrow D r).1 (mrow D r).2.1 (cHole (mcup D)) = _ at hz
  have c1 : cut 20 (zpass (cLast (mcup D)) (cRim (mcup D)) (cSet (mcup D) 4) (cSet (mcup D) 0) (dless (cSet (mcup D))) push (mrow D r).1 (mrow D r).2.1 (cHole (mcup D))).1 = (zpass (cLast (mcup D)) (cRim (mcup D)) (cSet (mcup D) 4) (cSet (mcup D) 0) (dless (cSet (mcup D))) push (mrow D r).1 (mrow D r).2.1 (cHole (mcup D))).1 := by
    rw [hz]
    exact cut_cut
  have c2 : cut 20 (zpass (cLast (mcup D)) (cRim (mcup D)) (cSet (mcup D) 4) (cSet (mcup D) 0) (dless (cSet (mcup D))) push (mrow D r).1 (mrow D r).2.1 (cHole (mcup D))).2.1 = (zpass (cLast (mcup D)) (cRim (mcup D)) (cSet (mcup D) 4) (cSet (mcup D) 0) (dless (cSet (mcup D))) push (mrow D r).1 (mrow D r).2.1 (cHole (mcup D))).2.1 := by
    rw [hz]
    exact cut_cut
  clear hz
  have eRim1 : D1 152 1 = cRim (mcup D) := f1 152 1 (by unfold mlF; omega)
  have eLid1 : D1 153 4 = cSet (mcup D) 4 := (f1 153 4 (by unfold mlF; omega)).trans (cut_in (n := 7) (k := 4) (f := D 153) (by decide) (by decide)).symm
  have eRim2 : D2 152 1 = cRim (mcup D) := (f2 152 1 (by omega)).trans eRim1
  have eLid2 : D2 153 4 = cSet (mcup D) 4 := (f2 153 4 (by omega)).trans eLid1
  have e154 : D1 157 r = (mrow D r).2.2 := f1 157 r (by unfold mlF; omega)
  rw [eRim1, eLid1] at ex1
  rw [eRim2, eLid2] at ex2
  unfold zrow
  unfold zpass at c1 c2 ⊢
  dsimp only at c1 c2 ⊢
  generalize zmv (cLast (mcup D)).toNat ((mrow D r).1, drv (cLast (mcup D)) (cSet (mcup D) 0) (dless (cSet (mcup D))) push (mrow D r).1 (mrow D r).2.1 (cHole (mcup D))) = p at m1 c1 c2 ⊢
  generalize cRim (mcup D) = rim at *
  generalize cSet (mcup D) 4 = lid at *
  generalize hl : cLast (mcup D) = last at *
  have x1e : x1 = zov p.1 rim lid 0 := ex1.trans (zov_at (m1 0 (by decide) (by decide)).1)
  obtain ⟨h3, hh3⟩ : ∃ h3, h3 = zoh p.1 rim lid 0 := ⟨_, rfl⟩
  have m2 : ∀ j, 0 ≤ j → j < 20 → D2 155 (20 * r + j) = h3 j := fun j j0 j1 => by
    rw [hh3]
    unfold zoh
    by_cases c : j = 0
    · rw [c, a1, zu_at, x1e, (m1 0 (by decide) (by decide)).1]
    · rw [zu_ne c, f2 155 _ (by omega)]
      exact (m1 j j0 j1).1
  rw [← hh3] at c1 ⊢
  have x2e : x2 = zov h3 rim lid last := ex2.trans (zov_at (m2 last (by omega) (by omega)))
  refine ⟨fr, by rw [x1e, x2e], ?_⟩
  have r1 : cut 20 (fun k => D3 155 (20 * r + k)) = zoh h3 rim lid last := by
    rw [← c1]
    refine cut_ext (fun j j0 j1 => ?_)
    unfold zoh
    by_cases c : j = last
    · rw [c, a2, zu_at, x2e, m2 last (by omega) (by omega)]
    · rw [zu_ne c, f3 155 _ (by omega)]
      exact m2 j j0 j1
  have r2 : cut 20 (fun k => D3 156 (20 * r + k)) = p.2 := by
    rw [← c2]
    refine cut_ext (fun j j0 j1 => ?_)
    rw [f3 156 _ (by omega), f2 156 _ (by omega)]
    exact (m1 j j0 j1).2
  show (cut 20 (fun k => D3 155 (20 * r + k)), cut 20 (fun k => D3 156 (20 * r + k)), D3 157 r) = _
  rw [r1, r2, b2, b1, e154, x1e, x2e]
  refine congrArg (fun q => (zoh h3 rim lid last, p.2, q)) ?_
  generalize zov p.1 rim lid 0 = x
  generalize zov h3 rim lid last = y
  generalize (mrow D r).2.2 = z
  unfold w32
  omega
theorem C_mslope (l0 : 2 ≤ D 152 0) (l1 : D 152 0 ≤ 20) : Cl d 0 0 mX10_slope [vr 152] (D, rho n1 W) (KI (fun r m => r = zslope (mcup D) (sAl (mst D)) ∧ m = (D, rho n1 W))) := by
  have wl : w32 (mD (D, rho n1 W) 152 0 - 1) = D 152 0 - 1 := w32_id (by show _ ≤ D 152 0 - 1; omega) (by show D 152 0 - 1 < _; omega)
  refine Cl_of mb_X10_slope (Nat.le_of_ble_eq_true rfl) (sg_X10_slope_0 ⟨rfl, Or.inl rfl, bnd (N := 40) rfl (by decide) (by decide), ?_⟩)
  rw [wl]
  refine ⟨bnd (N := 40) rfl (by omega) (by show D 152 0 - 1 < 40; omega), _, rfl, ?_, rfl⟩
  show w32 (D 155 0 - D 155 (D 152 0 - 1)) = w32 (cut 20 (fun k => D 155 (20 * 0 + k)) 0 - cut 20 (fun k => D 155 (20 * 0 + k)) (D 152 0 - 1))
  rw [cut_in (by decide) (by decide), cut_in (by omega) (by omega), show (20 : Int) * 0 + 0 = 0 by omega, show (20 : Int) * 0 + (D 152 0 - 1) = D 152 0 - 1 by omega]
theorem mrow_fr {D' : DD} {F : Nat → Int → Prop} {s : Int} (f : Fr F D D') (n2 : ∀ k, 0 ≤ k → k < 20 → ¬ F 155 (20 * s + k)) (n3 : ∀ k, 0 ≤ k → k < 20 → ¬ F 156 (20 * s + k)) (n4 : ¬ F 157 s) : mrow D' s = mrow D s := by
  unfold mrow
  rw [cut_ext (f := fun k => D' 155 (20 * s + k)) (g := fun k => D 155 (20 * s + k)) (fun k a b => f 155 _ (n2 k a b)), cut_ext (f := fun k => D' 156 (20 * s + k)) (g := fun k => D 156 (20 * s + k)) (fun k a b => f 156 _ (n3 k a b)), f 157 s n4]
theorem C_mpass {pa pc : Int} (l0 : 2 ≤ D 152 0) (l1 : D 152 0 ≤ 20) (hs : SOK (mst D)) : Cl (d + 2) 0 0 mX10_pass [vr 152, vi pa, vi pc] (D, rho n1 W) (KI (fun x m => ∃ D', m = (D', rho n1 W) ∧ Fr mpsF D D' ∧ (x, mst D') = ztick (mcup D) pa pc (mst D))) := by
  obtain ⟨h0, h1, t0⟩ := hs
  have t0 : 0 ≤ D 152 5 := t0
  have tm : (D 152 5).tmod 21 = D 152 5 % 21 := Int.tmod_eq_emod_of_nonneg t0
  have hc : cLast (mcup D) = D 152 0 - 1 := rfl
  refine Cl_of mb_X10_pass (Nat.le_of_ble_eq_true rfl) (sg_X10_pass_0 ⟨rfl, cP (C_mslope l0 l1) ?_⟩)
  show mK (D, rho n1 W) 158 = 20 ∧ ((0 : Int) ≤ (D 152 5).tmod 21 ∧ (D 152 5).tmod 21 < ((21 : Nat) : Int)) ∧ (∀ m2, m2 = sD (D, rho n1 W) 158 ((D 152 5).tmod 21) _ → _)
  rw [tm]
  refine ⟨rfl, ⟨by omega, by omega⟩, fun m2 e2 => ?_⟩
  obtain ⟨E, hE⟩ : ∃ E, E = wr D 158 (D 152 5 % 21) (zslope (mcup D) (sAl (mst D))) := ⟨_, rfl⟩
  have e2 : m2 = (E, rho n1 W) := by rw [hE]; exact e2
  subst e2
  have fE : Fr (fun q j => q = 158) D E := by
    rw [hE]
    exact Fr.refl.wr rfl
  have cE : mcup E = mcup D := mcup_fr fE (fun j x y => by omega) (fun q j x y => by omega)
  have rE : ∀ s, mrow E s = mrow D s := fun s => mrow_fr fE (fun k a b => by omega) (fun k a b => by omega) (by omega)
  have e0 : E 152 0 = D 152 0 := fE 152 0 (by omega)
  -- ALONG
  refine sg_X10_pass_21 ⟨fun c => absurd c (by decide), fun _ => ⟨fun c => absurd rfl c, fun _ => ⟨rfl, cV (C_mflows (D := E) (r := 0) (push := pa) (Or.inl rfl) (by omega) (by omega) (by rw [rE]; exact h0)) ?_⟩⟩⟩
  rintro m ⟨A1, rfl, fA1, mA1⟩
  refine ⟨rfl, cI (C_mover (D := A1) (r := 0) (c := 0) (Or.inl rfl) (by decide) (by decide)) ?_⟩
  rintro xa m ⟨A2, rfl, fA2, xa2, pa2, qa2⟩
  have eA2 : w32 (mD (A2, rho n1 W) 152 0 - 1) = cLast (mcup E) := by
    show w32 (A2 152 0 - 1) = E 152 0 - 1
    rw [fA2 152 0 (by omega), fA1 152 0 (by unfold mlF; omega)]
    exact w32_id (by omega) (by omega)
  rw [eA2]
  have hcE : cLast (mcup E) = D 152 0 - 1 := by rw [cE]; rfl
  refine ⟨rfl, cI (C_mover (D := A2) (r := 0) (c := cLast (mcup E)) (Or.inl rfl) (by omega) (by omega)) ?_⟩
  rintro xb m ⟨A3, rfl, fA3, xa3, pa3, qa3⟩
  obtain ⟨gA, sA', rA⟩ := mrow_join (Or.inl rfl) (by omega) (by omega) fA1 mA1 fA2 xa2 pa2 qa2 fA3 xa3 pa3 qa3
  rw [cE, rE] at sA' rA
  intro v1 ev1 v2 ev2
  rw [show w32 (0 + 1) = 1 from rfl] at ev2
  subst ev2
  have ev1 : v1 = (zrow (mcup D) pa (mrow D 0)).1 := by
    rw [ev1, sA', ← sA']
    unfold w32
    omega
  have cA : mcup A3 = mcup D := by rw [mcup_fr gA (fun j x y => by unfold mpF mlF; omega) (fun q j x y => by unfold mpF mlF; omega), cE]
  have rA1 : mrow A3 1 = mrow D 1 := by rw [mrow_fr gA (fun k a b => by unfold mpF mlF; omega) (fun k a b => by unfold mpF mlF; omega) (by unfold mpF mlF; omega), rE]
  have a0 : A3 152 0 = D 152 0 := by rw [gA 152 0 (by unfold mpF mlF; omega), e0]
  -- ACROSS
  refine sg_X10_pass_21 ⟨fun c => absurd c (by decide), fun _ => ⟨fun _ => ⟨rfl, cV (C_mflows (D := A3) (r := 1) (push := pc) (Or.inr rfl) (by omega) (by omega) (by rw [rA1]; exact h1)) ?_⟩, fun c => absurd c (by decide)⟩⟩
  rintro m ⟨B1, rfl, fB1, mB1⟩
  refine ⟨rfl, cI (C_mover (D := B1) (r := 1) (c := 0) (Or.inr rfl) (by decide) (by decide)) ?_⟩
  rintro xc m ⟨B2, rfl, fB2, xb2, pb2, qb2⟩
  have eB2 : w32 (mD (B2, rho n1 W) 152 0 - 1) = cLast (mcup A3) := by
    show w32 (B2 152 0 - 1) = A3 152 0 - 1
    rw [fB2 152 0 (by omega), fB1 152 0 (by unfold mlF; omega)]
    exact w32_id (by omega) (by omega)
  rw [eB2]
  have hcA : cLast (mcup A3) = D 152 0 - 1 := by rw [cA]; rfl
  refine ⟨rfl, cI (C_mover (D := B2) (r := 1) (c := cLast (mcup A3)) (Or.inr rfl) (by omega) (by omega)) ?_⟩
  rintro xd m ⟨B3, rfl, fB3, xb3, pb3, qb3⟩
  obtain ⟨gB, sB, rB⟩ := mrow_join (Or.inr rfl) (by omega) (by omega) fB1 mB1 fB2 xb2 pb2 qb2 fB3 xb3 pb3 qb3
  rw [cA, rA1] at sB rB
  intro v3 ev3 v4 ev4
  rw [show w32 (1 + 1) = 2 from rfl] at ev4
  subst ev4
  have rB0 : mrow B3 0 = (zrow (mcup D) pa (mrow D 0)).2 := by rw [mrow_fr gB (fun k a b => by unfold mpF mlF; omega) (fun k a b => by unfold mpF mlF; omega) (by unfold mpF mlF; omega), rA]
  have b5 : B3 152 5 = D 152 5 := by rw [gB 152 5 (by unfold mpF mlF; omega), gA 152 5 (by unfold mpF mlF; omega), fE 152 5 (by omega)]
  have b10 : B3 152 10 = D 152 10 := by rw [gB 152 10 (by unfold mpF mlF; omega), gA 152 10 (by unfold mpF mlF; omega), fE 152 10 (by omega)]
  have b155 : B3 158 = E 158 := by
    funext j
    rw [gB 158 j (by unfold mpF mlF; omega), gA 158 j (by unfold mpF mlF; omega)]
  refine sg_X10_pass_21 ⟨fun _ => ⟨rfl, fun m1 e1 => ?_⟩, fun c => absurd (by decide) c⟩
  have e1 : m1 = (wr B3 152 5 (w32 (D 152 5 + 1)), rho n1 W) := by
    rw [e1, show mD (B3, rho n1 W) 152 5 = D 152 5 from b5]
    rfl
  subst e1
  have fW : Fr (fun q j => q = 152 ∧ j = 5) B3 (wr B3 152 5 (w32 (D 152 5 + 1))) := Fr.refl.wr ⟨rfl, rfl⟩
  refine ⟨_, rfl, _, rfl, ?_, ?_⟩
  · exact (((fE.mono (fun q j z => by unfold mpsF; omega)).trans (gA.mono (fun q j z => by unfold mpF mlF at z; unfold mpsF; omega))).trans (gB.mono (fun q j z => by unfold mpF mlF at z; unfold mpsF; omega))).trans (fW.mono (fun q j z => by unfold mpsF; omega))
  · have w0 : mrow (wr B3 152 5 (w32 (D 152 5 + 1))) 0 = (zrow (mcup D) pa (mrow D 0)).2 := by rw [mrow_fr fW (fun k a b => by omega) (fun k a b => by omega) (by omega), rB0]
    have w1 : mrow (wr B3 152 5 (w32 (D 152 5 + 1))) 1 = (zrow (mcup D) pc (mrow D 1)).2 := by rw [mrow_fr fW (fun k a b => by omega) (fun k a b => by omega) (by omega), rB]
    have ws : cut 21 (wr B3 152 5 (w32 (D 152 5 + 1)) 158) = zu (cut 21 (D 158)) (D 152 5 % 21) (zslope (mcup D) (sAl (mst D))) := by
      rw [wr_o (by decide), b155, hE, wr_A, cut_zu (by omega) (by omega)]
    show (v3, wr B3 152 5 (w32 (D 152 5 + 1)) 152 5, wr B3 152 5 (w32 (D 152 5 + 1)) 152 10, mrow (wr B3 152 5 (w32 (D 152 5 + 1))) 0, mrow (wr B3 152 5 (w32 (D 152 5 + 1))) 1, cut 21 (wr B3 152 5 (w32 (D 152 5 + 1)) 158)) = (w32 ((zrow (mcup D) pa (mrow D 0)).1 + (zrow (mcup D) pc (mrow D 1)).1), w32 (D 152 5 + 1), D 152 10, (zrow (mcup D) pa (mrow D 0)).2, (zrow (mcup D) pc (mrow D 1)).2, zu (cut 21 (D 158)) (D 152 5 % 21) (zslope (mcup D) (sAl (mst D))))
    rw [w0, w1, ws, wr_at, wr_j (by decide), b10, ev3, sB, ev1]
theorem C_mtick {a b : Int} (l0 : 2 ≤ D 152 0) (l1 : D 152 0 ≤ 20) (hs : SOK (mst D)) : Cl (d + 3) 0 0 mX10_tick [vr 152, vi a, vi b] (D, rho n1 W) (KI (fun x m => ∃ D', m = (D', rho n1 W) ∧ Fr (fun q j => mpsF q j ∨ (q = 152 ∧ j = 15)) D D' ∧ D' 152 15 = 0 ∧ (((-500 ≤ a ∧ a ≤ 500) ∧ (-500 ≤ b ∧ b ≤ 500)) ∧ (x, mst D') = ztick (mcup D) a b (mst D) ∨ ¬ ((-500 ≤ a ∧ a ≤ 500) ∧ (-500 ≤ b ∧ b ≤ 500)) ∧ x = -1 ∧ mst D' = mst D))) := by
  refine Cl_of mb_X10_tick (Nat.le_of_ble_eq_true rfl) (sg_X10_tick_0 ⟨rfl, fun m1 e1 => ?_⟩)
  obtain ⟨E, hE, fE, a15, cE, sE⟩ := m0 D
  have e1 : m1 = (E, rho n1 W) := by rw [hE]; exact e1
  subst e1
  have e0 : E 152 0 = D 152 0 := fE 152 0 (by omega)
  have mE : Fr (fun q j => mpsF q j ∨ (q = 152 ∧ j = 15)) D E := fE.mono (fun q j z => Or.inr z)
  refine cB C_in (fun hx => yE (cB C_in (fun hy => yE ⟨rfl, cI (C_mpass (D := E) (pa := a) (pc := b) (by omega) (by omega) (by rw [sE]; exact hs)) ?_⟩) (fun hy => nE ⟨_, rfl, E, rfl, mE, a15, Or.inr ⟨fun q => hy q.2, rfl, sE⟩⟩))) (fun hx => nE ⟨_, rfl, E, rfl, mE, a15, Or.inr ⟨fun q => hx q.1, rfl, sE⟩⟩)
  rintro x m ⟨G, rfl, f, h⟩
  rw [cE, sE] at h
  exact ⟨_, rfl, G, rfl, mE.trans (f.mono (fun q j z => Or.inl z)), by rw [f 152 15 (by unfold mpsF; omega), a15], Or.inl ⟨⟨hx, hy⟩, h⟩⟩
end MPA
