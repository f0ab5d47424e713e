/-! ===== the Trial's other methods ===== -/
def zlean (c : Cv) (tilt : Int) (h : Int → Int) : Int → Int := fun j => if 0 ≤ j ∧ j ≤ cLast c then btw (w32 (cFill c + w32 ((w32 (tilt * w32 (cLast c - w32 (2 * j)))).tdiv (cLast c)))) 0 (cRim c) else h j
def zleanr (c : Cv) (tilt : Int) (r : Rv) : Rv := (zlean c tilt r.1, cut 20 (fun _ => 0), r.2.2)
theorem zlean_cut {c : Cv} {tilt : Int} {h : Int → Int} (l : cLast c ≤ 19) : zlean c tilt (cut 20 h) = cut 20 (zlean c tilt h) := by
  funext j
  unfold zlean cut
  by_cases e : 0 ≤ j ∧ j ≤ cLast c
  · rw [if_pos e, if_pos (by omega)]
    exact (if_pos e).symm
  · rw [if_neg e]
    by_cases e2 : 0 ≤ j ∧ j < 20
    · rw [if_pos e2, if_pos e2]
      exact (if_neg e).symm
    · rw [if_neg e2, if_neg e2]
/-- ALONG let go: the row behind k TICKS -/
def zlr (c : Cv) (tilt : Int) : Nat → Rv
  | 0 => zleanr c tilt (zfr (cFill c))
  | k + 1 => (zrow c 0 (zlr c tilt k)).2
def zlg (c : Cv) (tilt k : Int) : Int := zslope c (zlr c tilt k.toNat)
/-- of equal ones the first: its place, how often -/
def zmo (f : Int → Int) : Nat → Int × Int
  | 0 => (-1, 0)
  | n + 1 => if (zmo f n).2 < f n then ((n : Int), f n) else zmo f n
section RST
variable {d n1 : Nat} {W : Nat → Nat} {D : DD} {w : Nat}
theorem C_lean {a c : Nat} {tilt : Int} {ρ : Rho} (hr : SRow ρ a) (hc : SCup ρ c) (l0 : 1 ≤ D c 0) (l1 : D c 0 ≤ 19) (hd : c + 2 < a ∨ a + 2 < c) :
    Cl (d + 1) 0 0 mX4_lean [vr a, vr c, vi tilt] (D, ρ) (KV (fun m => ∃ D', m = (D', ρ) ∧ Fr (fun q j => q = a + 1 ∨ q = a + 2) D D' ∧ rowv D' a = zleanr (cupv D c) tilt (rowv D a))) := by
  obtain ⟨f1, f2, f3, f4⟩ := hr.f
  obtain ⟨k0, k1, k2, k3, k4, k5, k6⟩ := hr
  refine Cl_of mb_X4_lean (by show 3 ≤ 5; decide) (sg_X4_lean_0 ⟨hc.1, cP C_max ?_⟩)
  have em : max 1 (mD (D, ρ) c 0) = D c 0 := by show max 1 (D c 0) = D c 0; omega
  rw [em]
  refine Wp.loop (σ := Int) (fun i => [some (vr a), some (vr c), some (vi tilt), some (vi (D c 0)), some (vi i)])
    (fun i μ => ∃ E : DD, μ = (E, ρ) ∧ Fr (fun q j => q = a + 1 ∧ 0 ≤ j ∧ j < i) D E ∧ 0 ≤ i ∧ i ≤ D c 0 + 1 ∧ ∀ j, 0 ≤ j → j < i → E (a + 1) j = zlean (cupv D c) tilt (D (a + 1)) j)
    (fun i => (D c 0 + 1 - i).toNat) ?_ 0 (D, ρ) ⟨D, rfl, Fr.refl, by decide, by omega, fun j h0 h1 => by omega⟩
  rintro i μ ⟨E, rfl, hF, i0, i1, hv⟩ ih
  have ec : ∀ k, E c k = D c k := fun k => hF c k (by omega)
  refine sg_X4_lean_12 ⟨fun c1 => ⟨k0, ?_⟩, fun c1 => ⟨k0, hc.1, by omega, cP C_between ⟨by rw [show mR (E, ρ) a 0 = a + 1 from k1]; exact k3, ?_⟩⟩⟩
  · rw [show mR (E, ρ) a 1 = a + 2 from k2]
    refine cV (C_fillP (ρ := ρ) (D := E) (a := a + 2) k4) ?_
    rintro m1 ⟨D', rfl, h1, v1⟩
    refine ⟨rfl, D', rfl, (hF.mono (fun q j h => Or.inl h.1)).trans (h1.mono (fun q j h => Or.inr h)), ?_⟩
    have ea : D' a 2 = D a 2 := by rw [h1 a 2 (by omega), hF a 2 (by omega)]
    unfold rowv zleanr
    rw [v1 20 (by rw [k6]; decide), ea, h1.obj (o := a + 1) (fun j => by omega), zlean_cut (c := cupv D c) l1]
    refine Prod.ext ?_ rfl
    refine cut_ext (fun j j0 j1 => ?_)
    by_cases e : j < i
    · exact hv j j0 e
    · rw [hF (a + 1) j (by omega)]
      unfold zlean
      rw [if_neg (show ¬ (0 ≤ j ∧ j ≤ cLast (cupv D c)) from fun z => by have := z.2; change j ≤ D c 0 at this; omega)]
  · rw [show mR (E, ρ) a 0 = a + 1 from k1]
    refine ⟨bnd (N := 20) k5 i0 (by omega), fun m3 e3 v ev => ?_⟩
    rw [w32_id (by omega) (by omega)] at ev
    subst ev
    refine ih (i + 1) m3 ⟨wr E (a + 1) i _, e3, (hF.mono (fun q j h => ⟨h.1, h.2.1, by omega⟩)).wr ⟨rfl, i0, by omega⟩, by omega, by omega, fun j j0 j1 => ?_⟩ (by omega)
    by_cases e : j = i
    · subst e
      rw [wr_at]
      unfold zlean
      rw [if_pos (show 0 ≤ j ∧ j ≤ cLast (cupv D c) from ⟨j0, by show j ≤ D c 0; omega⟩)]
      show btw (w32 (E c 2 + _)) 0 (E c 1) = btw (w32 (D c 2 + _)) 0 (D c 1)
      rw [ec, ec]
      rfl
    · rw [wr_j e]
      exact hv j j0 (by omega)
theorem C_spiltWithPause {at' k : Int} (hT : TPre D W w) (a0 : 0 ≤ at') (k0 : 0 ≤ k) (k40 : k ≤ 40) : Cl (d + 6) 0 0 mX7_spiltWithPause [vr 30, vr w, vi at', vi k] (D, rho n1 W) (KI (fun r m => ∃ D', m = (D', rho n1 W) ∧ Fr rF D D' ∧ r = oSum (zPause (cupv D 31) (lawO D (W 9)) (wkv D w) at' k.toNat))) := by
  refine Cl_of mb_X7_spiltWithPause (by show 4 ≤ 5; decide) (sg_X7_spiltWithPause_0 ⟨rfl, cV (C_tbegin (D := D) hT.1.1) ?_⟩)
  rintro m1 ⟨D1, rfl, h1, b1, b2, v1⟩
  obtain ⟨z0, z1, z2⟩ := trv_beg hT.1 v1
  obtain ⟨q1, q2, q3, q4⟩ := hT.v h1
  have h0 := hT.2.2.2.1
  have h9 := hT.2.2.2.2
  refine ⟨rfl, cV (C_through (D := D1) (hT.fr h1) z0 (by rw [z1]; decide) (by rw [z2]; decide) (by rw [b2]; decide) (by rw [b2]; decide) (fun h => absurd b1 h)) ?_⟩
  rintro m2 ⟨D2, rfl, h2, c1, c2, c3, c4⟩
  rcases c4 with ⟨c4, -⟩ | ⟨c4, -⟩
  rotate_left
  · exact absurd b1 c4
  have h12 := h1.trans h2
  obtain ⟨r1, r2, r3, r4⟩ := hT.v h12
  obtain ⟨p0, p1, p2, p3⟩ := zrun_phys (cap := 1040) (L := lawO D1 (W 9)) (w := wkv D1 w) (t := fun _ => 0) (c := cupv D1 31) (by rw [q1]; exact hT.1) (n := (min at' (D1 w 4) - max 0 0).toNat) (i := max 0 0) z0 (by show D1 30 4 + _ < _; omega) (by show D1 34 0 + _ < _; omega)
  rw [← c4] at p0 p2 p3
  have p2 : zSum (trv D2) ≤ D1 30 4 + 80000 * ((min at' (D1 w 4) - max 0 0).toNat : Int) := p2
  have p3 : sTick (zS (trv D2)) = D1 34 0 + ((min at' (D1 w 4) - max 0 0).toNat : Int) := p3
  have hcl : 1 ≤ D 31 0 ∧ D 31 0 ≤ 19 := ⟨hT.1.1, hT.1.2.1⟩
  refine Wp.loop (σ := Int) (fun i => [some (vr 30), some (vr w), some (vi at'), some (vi k), some (vi i)])
    (fun i μ => ∃ E : DD, μ = (E, rho n1 W) ∧ Fr rF D E ∧ E 30 3 = 0 ∧ 0 ≤ E 30 9 ∧ E 30 9 ≤ 1040 ∧ 0 ≤ i ∧ i ≤ k ∧ trv E = zstill 1040 (cupv D 31) i.toNat (trv D2))
    (fun i => (k - i).toNat) ?_ 0 (D2, rho n1 W) ⟨D2, rfl, h12, c1.trans b1, c2, c3, by decide, k0, rfl⟩
  rintro i μ ⟨E, rfl, hF, e3, e90, e91, i0, i1, hv⟩ ih
  obtain ⟨s0, s1, s2⟩ := zstill_phys (cap := 1040) hT.1 p0 (by omega) (by omega) (n := i.toNat) (by omega)
  rw [← hv] at s0 s1 s2
  have s1 : E 30 4 ≤ zSum (trv D2) + 80000 * (i.toNat : Int) := s1
  have s2 : E 34 0 = sTick (zS (trv D2)) + (i.toNat : Int) := s2
  obtain ⟨t1, t2, t3, t4⟩ := hT.v hF
  refine sg_X7_spiltWithPause_16 ⟨fun c => ⟨(sWk_of (n1 := n1) (W := W) hT.2.2.1).1, rfl, cV (C_through (D := E) (hT.fr hF) s0 (by omega) (by omega) e90 e91 (fun h => absurd e3 h)) ?_⟩, fun c => ⟨rfl, rfl, ?_⟩⟩
  · rintro m3 ⟨D3, rfl, h3, f1, f2, f3, f4⟩
    rcases f4 with ⟨f4, -⟩ | ⟨f4, -⟩
    · have key : zout (trv D3) = zPause (cupv D 31) (lawO D (W 9)) (wkv D w) at' k.toNat := by
        rw [f4, hv, c4, t1, t2, t3, q1, q2, q3, q4, v1]
        show zout (zrun 1040 _ _ _ _ (min (E w 4) (E w 4) - max 0 at').toNat (max 0 at') _) = _
        rw [t4, show i = k by omega]
        have m0 : (max 0 0 : Int) = 0 := by decide
        rw [m0, show (min at' (D w 4) - 0).toNat = (min at' (D w 4)).toNat by omega, show max 0 at' = at' by omega, show (min (D w 4) (D w 4) - at').toNat = (D w 4 - at').toNat by omega]
        unfold zPause
        have x1 := SimZ.run (cap := 1040) (L := lawO D (W 9)) (w := wkv D w) (t := fun _ => 0) hT.1.late.1 hT.1.late.2 (n := (min at' (D w 4)).toNat) (i := 0) (zbeg_sim (c := cupv D 31) (s := stv D 34) (seed := 1)) (Int.le_refl 0) (by show (0 : Int) + _ < _; omega)
        obtain ⟨y0, -, -, y3⟩ := zrun_phys (cap := 1040) (L := lawO D (W 9)) (w := wkv D w) (t := fun _ => 0) (c := cupv D 31) hT.1 (n := (min at' (D w 4)).toNat) (i := 0) (zbeg_ok (s := stv D 34) (seed := 1) hT.1) (by show (0 : Int) + _ < _; omega) (by show (0 : Int) + _ < _; omega)
        have y3 : sTick (zS (zrun 1040 (cupv D 31) (lawO D (W 9)) (wkv D w) (fun _ => 0) (min at' (D w 4)).toNat 0 (zbeg (cupv D 31) (stv D 34) 1))) = 0 + ((min at' (D w 4)).toNat : Int) := y3
        obtain ⟨x2, x3⟩ := zstill_sim (cap := 1040) (c := cupv D 31) x1 (by omega) (by omega) (n := k.toNat) (by omega)
        exact (SimZ.run (cap := 1040) (L := lawO D (W 9)) (w := wkv D w) (t := fun _ => 0) hT.1.late.1 hT.1.late.2 (n := (D w 4 - at').toNat) (i := at') x2 (by omega) (by omega)).2
      exact ⟨rfl, _, rfl, D3, rfl, hF.trans h3, by rw [← key]; rfl⟩
    · exact absurd e3 f4
  · have q31 : E 31 0 = D 31 0 := hF 31 0 (by unfold rF; omega)
    refine cI (C_spass (D := E) (o := 34) (c := 31) st34 cup31 (by rw [q31]; exact hcl.1) (by rw [q31]; exact hcl.2) (by omega) s0.1.2.2) ?_
    rintro x1 m3 ⟨E1, rfl, g1, g2⟩
    have r31 : E1 31 0 = E 31 0 := g1 31 0 (by omega)
    refine ⟨rfl, cV (C_tnote (D := E1) (by rw [r31, q31]; exact hcl.1) (by rw [r31, q31]; exact hcl.2) (by rw [g1 30 9 (by omega)]; exact e90) (by rw [g1 30 9 (by omega)]; exact e91)) ?_⟩
    rintro m4 ⟨E2, rfl, g3, g4, g5, g6⟩ v rfl
    rw [w32_id (by omega) (by omega)]
    have hF1 : Fr rF D E1 := hF.trans (g1.mono (fun q j h => by unfold rF; omega))
    refine ih (i + 1) (E2, rho n1 W) ⟨E2, rfl, hF1.trans (g3.mono (fun q j h => by unfold nF at h; unfold rF; omega)), ?_, g4, g5, by omega, by omega, ?_⟩ (by omega)
    · rw [g3 30 3 (by unfold nF; omega), g1 30 3 (by omega), e3]
    · rw [show (i + 1).toNat = i.toNat + 1 by omega]
      show _ = znote 1040 (cupv D 31) (ztick (cupv D 31) 0 0 (zS (zstill 1040 (cupv D 31) i.toNat (trv D2)))) (zstill 1040 (cupv D 31) i.toNat (trv D2))
      rw [← hv, g6, (hT.v hF1).1]
      have eo : zout (trv E1) = zout (trv E) := by
        unfold zout trv
        dsimp only
        rw [g1 30 4 (by omega), g1 30 5 (by omega), g1 30 6 (by omega), g1 30 7 (by omega), g1 30 9 (by omega), g1.obj (o := 42) (fun j => by omega)]
      rw [znote_out eo, g2, t1]
      rfl
/-- what letting go changes -/
def lF (q : Nat) (_ : Int) : Prop := (34 ≤ q ∧ q ≤ 41) ∨ q = 44
theorem C_letGo {tilt n : Int} (hc : COK (cupv D 31)) (n0 : 0 ≤ n) (n400 : n ≤ 400) : Cl (d + 4) 0 0 mX7_letGo [vr 30, vi tilt, vi n] (D, rho n1 W) (KR (fun r m => r = 44 ∧ ∃ D', m = (D', rho n1 W) ∧ Fr lF D D' ∧ ∀ k, 0 ≤ k → k ≤ n → D' 44 k = zlg (cupv D 31) tilt k)) := by
  have hcl : 1 ≤ D 31 0 ∧ D 31 0 ≤ 19 := ⟨hc.1, hc.2.1⟩
  refine Cl_of mb_X7_letGo (by show 3 ≤ 4; decide) (sg_X7_letGo_0 ⟨rfl, rfl, cV (C_sfresh (D := D) (o := 34) (c := 31) st34 cup31 (by omega)) ?_⟩)
  rintro m1 ⟨D1, rfl, h1, v1⟩
  have e1 : D1 31 0 = D 31 0 := h1 31 0 (by omega)
  refine ⟨rfl, rfl, rfl, cV (C_lean (D := D1) (a := 35) (c := 31) row35 cup31 (by rw [e1]; exact hcl.1) (by rw [e1]; exact hcl.2) (by omega)) ?_⟩
  rintro m2 ⟨D2, rfl, h2, v2⟩
  have e2 : D2 31 0 = D 31 0 := by rw [h2 31 0 (by omega), e1]
  have c1 : cupv D1 31 = cupv D 31 := cupv_fr h1 (fun q j a b => by omega)
  have c2 : cupv D2 31 = cupv D 31 := by rw [cupv_fr h2 (fun q j a b => by omega), c1]
  have t1 : D1 34 0 = 0 := congrArg Prod.fst v1
  have t2 : D2 34 0 = 0 := by rw [h2 34 0 (by omega), t1]
  have r1 : rowv D1 35 = zfr (D 31 2) := congrArg (fun q => q.2.2.1) v1
  have r2 : rowv D2 35 = zlr (cupv D 31) tilt 0 := by rw [v2, c1, r1]; rfl
  have hF2 : Fr lF D D2 := (h1.mono (fun q j h => by unfold lF; omega)).trans (h2.mono (fun q j h => by unfold lF; omega))
  refine ⟨rfl, rfl, rfl, cP (C_slope (D := D2) (a := 35) (c := 31) row35 cup31 (by rw [e2]; exact hcl.1) (by rw [e2]; exact hcl.2)) ⟨rfl, bnd (N := 401) rfl (by decide) (by decide), fun m4 e4 => ?_⟩⟩
  refine Wp.loop (σ := Int) (fun i => [some (vr 30), some (vi tilt), some (vi n), some (vi i)])
    (fun i μ => ∃ E : DD, μ = (E, rho n1 W) ∧ Fr lF D E ∧ 1 ≤ i ∧ i ≤ n + 1 ∧ E 34 0 = i - 1 ∧ rowv E 35 = zlr (cupv D 31) tilt (i - 1).toNat ∧ ∀ k, 0 ≤ k → k < i → E 44 k = zlg (cupv D 31) tilt k)
    (fun i => (n + 1 - i).toNat) ?_ 1 m4 ⟨wr D2 44 0 (zslope (cupv D2 31) (rowv D2 35)), e4, hF2.wr (by unfold lF; omega), by decide, by omega, by rw [wr_o (by decide), t2]; decide, ?_, ?_⟩
  rotate_left
  · rw [rowv_fr (Fr.refl.wr (F := fun z _ => z = 44) rfl) (fun q j a b => by omega), r2]
    rfl
  · intro k k0 k1
    rw [show k = 0 by omega, wr_at, c2, r2]
    rfl
  rintro i μ ⟨E, rfl, hF, i0, i1, ht, hr, hv⟩ ih
  refine sg_X7_letGo_48 ⟨fun c => ⟨rfl, _, rfl, rfl, E, rfl, hF, fun k k0 k1 => hv k k0 (by omega)⟩, fun c => ⟨rfl, ka rfl, fun c3 => ?_, fun c3 => ⟨rfl, ?_⟩⟩⟩
  · have c3 : ((401 : Nat) : Int) ≤ i := c3
    omega
  · have q31 : E 31 0 = D 31 0 := hF 31 0 (by unfold lF; omega)
    have cE : cupv E 31 = cupv D 31 := cupv_fr hF (fun q j a b => by unfold lF; omega)
    refine cI (C_spass (D := E) (o := 34) (c := 31) st34 cup31 (by rw [q31]; exact hcl.1) (by rw [q31]; exact hcl.2) (by omega) (by omega)) ?_
    rintro x1 m3 ⟨E1, rfl, g1, g2⟩
    have r31 : E1 31 0 = E 31 0 := g1 31 0 (by omega)
    have cE1 : cupv E1 31 = cupv D 31 := by rw [cupv_fr g1 (fun q j a b => by omega), cE]
    have g3 : rowv E1 35 = zlr (cupv D 31) tilt (i - 1 + 1).toNat := by
      have : rowv E1 35 = (zrow (cupv E 31) 0 (rowv E 35)).2 := congrArg (fun q => q.2.2.2.1) g2
      rw [this, cE, hr, show (i - 1 + 1).toNat = (i - 1).toNat + 1 by omega]
      rfl
    have g4 : E1 34 0 = w32 (E 34 0 + 1) := congrArg (fun q => q.2.1) g2
    refine ⟨rfl, rfl, rfl, cP (C_slope (D := E1) (a := 35) (c := 31) row35 cup31 (by rw [r31, q31]; exact hcl.1) (by rw [r31, q31]; exact hcl.2)) ⟨rfl, bnd (N := 401) rfl (by omega) (by show i < 401; omega), fun m4 e4 v ev => ?_⟩⟩
    rw [w32_id (by omega) (by omega)] at ev
    subst ev
    refine ih (i + 1) m4 ⟨wr E1 44 i (zslope (cupv E1 31) (rowv E1 35)), e4, (hF.trans (g1.mono (fun q j h => by unfold lF; omega))).wr (by unfold lF; omega), by omega, by omega, ?_, ?_, ?_⟩ (by omega)
    · rw [wr_o (by decide), g4, w32_id (by omega) (by omega), ht]
      omega
    · rw [rowv_fr (Fr.refl.wr (F := fun z _ => z = 44) rfl) (fun q j a b => by omega), g3, show i - 1 + 1 = i + 1 - 1 by omega]
    · intro k k0 k1
      by_cases e : k = i
      · rw [e, wr_at, cE1, g3, show i - 1 + 1 = i by omega]
        rfl
      · rw [wr_j e, g1 44 k (by omega)]
        exact hv k k0 (by omega)
theorem C_clearFirsts : Cl (d + 1) 0 0 mX7_clearFirsts [vr 30] (D, rho n1 W) (KV (fun m => ∃ D', m = (D', rho n1 W) ∧ Fr (fun q _ => q = 43) D D' ∧ ∀ k, 0 ≤ k → k < 1000 → D' 43 k = 0)) := by
  refine Cl_of mb_X7_clearFirsts (by show 1 ≤ 1; decide) (sg_X7_clearFirsts_0 ⟨rfl, cV (C_fillP (ρ := rho n1 W) (D := D) (a := 43) rfl) ?_⟩)
  rintro m1 ⟨D', rfl, h1, v1⟩
  refine ⟨rfl, D', rfl, h1, fun k k0 k1 => ?_⟩
  exact cut_eq (v1 1000 (by show (1000 : Int) ≤ ((1000 : Nat) : Int); decide)) k0 k1
theorem C_countFirst {s : Int} : Cl (d + 1) 0 0 mX7_countFirst [vr 30, vi s] (D, rho n1 W) (KV (fun m => ∃ D', m = (D', rho n1 W) ∧ Fr (fun q _ => q = 43) D D' ∧ ∀ k, 0 ≤ k → k < 1000 → D' 43 k = (if k = s then w32 (D 43 k + 1) else D 43 k))) := by
  refine Cl_of mb_X7_countFirst (by show 2 ≤ 2; decide) (sg_X7_countFirst_0 ⟨rfl, ka rfl, cB C_isIn (fun hy => yE ⟨rfl, Or.inl rfl, ?_, rfl, ?_, ?_⟩) (fun hy => nE ⟨rfl, D, rfl, Fr.refl, ?_⟩)⟩)
  · have hy : 0 ≤ s ∧ s ≤ w32 (((1000 : Nat) : Int) - 1) := hy
    rw [w32_id (by decide) (by decide)] at hy
    exact bnd (N := 1000) rfl hy.1 (by omega)
  · have hy : 0 ≤ s ∧ s ≤ w32 (((1000 : Nat) : Int) - 1) := hy
    rw [w32_id (by decide) (by decide)] at hy
    exact bnd (N := 1000) rfl hy.1 (by omega)
  · intro m2 e2
    refine ⟨rfl, wr D 43 s (w32 (D 43 s + 1)), e2, Fr.refl.wr rfl, fun k k0 k1 => ?_⟩
    by_cases e : k = s
    · rw [if_pos e, e, wr_at]
    · rw [if_neg e, wr_j e]
  · intro k k0 k1
    have hy : ¬ (0 ≤ s ∧ s ≤ w32 (((1000 : Nat) : Int) - 1)) := hy
    rw [w32_id (by decide) (by decide)] at hy
    rw [if_neg (by omega)]
theorem C_mostOftenFirst : Cl d 0 0 mX7_mostOftenFirst [vr 30] (D, rho n1 W) (KI (fun r m => r = (zmo (D 43) 1000).1 ∧ m = (D, rho n1 W))) := by
  refine Cl_of mb_X7_mostOftenFirst (by show 1 ≤ 4; decide) (sg_X7_mostOftenFirst_0 ?_)
  refine Wp.loop (σ := Int × Int × Int) (fun z => [some (vr 30), some (vi z.1), some (vi z.2.1), some (vi z.2.2)])
    (fun z μ => μ = (D, rho n1 W) ∧ 0 ≤ z.2.2 ∧ z.2.2 ≤ 1000 ∧ (z.1, z.2.1) = zmo (D 43) z.2.2.toNat)
    (fun z => (1000 - z.2.2).toNat) ?_ (-1, 0, 0) (D, rho n1 W) ⟨rfl, by decide, by decide, rfl⟩
  rintro ⟨s, mo, i⟩ μ ⟨rfl, i0, i1, hv⟩ ih
  dsimp only at i0 i1 hv ih ⊢
  refine sg_X7_mostOftenFirst_6 ⟨rfl, ka rfl, fun c => ⟨s, rfl, ?_, rfl⟩, fun c => ⟨Or.inl rfl, ⟨i0, Int.not_le.mp c⟩, fun c2 v ev => ?_, fun c2 => ⟨⟨i0, Int.not_le.mp c⟩, fun v2 e2 v3 e3 => ?_⟩⟩⟩
  · have c : ((1000 : Nat) : Int) ≤ i := c
    have : (zmo (D 43) 1000).1 = (zmo (D 43) i.toNat).1 := by rw [show i.toNat = 1000 by omega]
    rw [this, ← hv]
  · have c : ¬ ((1000 : Nat) : Int) ≤ i := c
    rw [w32_id (by omega) (by omega)] at ev
    subst ev
    change D 43 i ≤ mo at c2
    refine ih (s, mo, i + 1) (D, rho n1 W) ⟨rfl, by dsimp only; omega, by dsimp only; omega, ?_⟩ (by dsimp only; omega)
    dsimp only
    rw [show (i + 1).toNat = i.toNat + 1 by omega]
    show _ = if (zmo (D 43) i.toNat).2 < D 43 (i.toNat : Int) then _ else zmo (D 43) i.toNat
    rw [← hv, show (i.toNat : Int) = i by omega, if_neg (by show ¬ mo < D 43 i; omega)]
  · have c : ¬ ((1000 : Nat) : Int) ≤ i := c
    rw [w32_id (by omega) (by omega)] at e3
    subst e3 e2
    change ¬ D 43 i ≤ mo at c2
    refine ih (i, D 43 i, i + 1) (D, rho n1 W) ⟨rfl, by dsimp only; omega, by dsimp only; omega, ?_⟩ (by dsimp only; omega)
    dsimp only
    rw [show (i + 1).toNat = i.toNat + 1 by omega]
    show _ = if (zmo (D 43) i.toNat).2 < D 43 (i.toNat : Int) then ((i.toNat : Int), D 43 (i.toNat : Int)) else zmo (D 43) i.toNat
    rw [← hv, show (i.toNat : Int) = i by omega, if_pos (by show mo < D 43 i; omega)]
end RST
