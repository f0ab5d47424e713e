/-! ===== calls that change the CUP or the state, both sides ===== -/
section JMU
variable {n1 : Nat} {D D' : DD} {W V : Nat → Nat} {N : Int} {a b v k x y : Int}
theorem R0.vW (h : R0 D W N) (hV : ∀ i, i < 9 → V i = W i) : R0 D V N := by
  obtain ⟨ha, hb, hc, hd, he, hf, hg, hi⟩ := h
  have lw : lawsv D V = lawsv D W := laws_fr (F := fun _ _ => False) (fun _ _ _ => rfl) ha.1.2.2.1 hV (fun _ _ _ z => z)
  exact ⟨ha.cg rfl hV (fun i hi => ha.1.2.2.2 i hi) rfl rfl, hb, hc, hd, he.cg (fun a a0 a1 => by unfold wsv; rw [hV a.toNat (by omega)]) (fun _ _ _ => rfl), hf.cg lw rfl (fun _ _ => rfl), hg, hi⟩
def cuM (q : Nat) (j : Int) : Prop := q = 6 ∨ q = 7 ∨ q = 153 ∨ q = 154 ∨ (q = 152 ∧ j = 15)
theorem R0.newcup (h : R0 D W N) (t : RT D) (f : Fr cuM D D') (hb : cupv D' 5 = mcup D') (hc : COK (mcup D')) (ho : HO (mcup D')) (hl : cLast (mcup D') = cLast (mcup D)) : R0 D' W (N + 1) ∧ RT D' := by
  obtain ⟨pa, pb, pc, pd, pe, pf, pg, pi⟩ := h
  exact ⟨⟨pa.fr f (fun q j z => by unfold uA at z; unfold cuM; omega) (by rw [hb]; exact hc), ⟨hb, ho⟩, pc.fr f (fun q j z => by unfold uC at z; unfold cuM; omega) hl, pd.fr f (fun q j z => by unfold uD at z; unfold cuM; omega) hl, pe.fr pa.1 f (fun q j z => by unfold uE at z; unfold cuM; omega), pf.fr pa.1 f (fun q j z => by unfold uF at z; unfold cuM; omega), pg.fr f (fun q j z => by unfold uG at z; unfold cuM; omega), pi.fr f (fun q j z => by unfold uI at z; unfold cuM; omega)⟩, t.fr f (fun q j z => by unfold uT at z; unfold cuM; omega)⟩
theorem J_set (h : R0 D W N) (t : RT D) : Both n1 D W N mX9_set mX10_set [vi a, vi v] := by
  refine ⟨_, C_set (d := 213) h.1.2.2, ?_⟩
  rintro x1 m1 ⟨D1, rfl, f1, k1⟩
  have c1 : mcup D1 = mcup D := mcup_fr f1 (fun j a b => by omega) (fun q j a b => by omega)
  refine ⟨D1, W, rfl, f1.obj (fun j => by omega), _, C_mset (d := 219), ?_⟩
  rintro x2 m2 ⟨D2, rfl, f2, -, k2⟩
  have f : Fr cuM D D2 := (f1.mono (fun q j z => by unfold cuM; omega)).trans (f2.mono (fun q j z => by unfold cuM; omega))
  have c2 : cupv D2 5 = cupv D1 5 := cupv_fr f2 (fun q j a b => by omega)
  rw [c1] at k2
  rw [h.2.1.1] at k1
  have cok := h.run.2.1
  have ho := h.2.1.2
  rcases k1 with ⟨g, r1, e1⟩ | ⟨g, r1, e1⟩
  · rcases k2 with ⟨-, r2, e2⟩ | ⟨g', -⟩
    · obtain ⟨hr, ht⟩ := h.newcup t f (by rw [c2, e1, e2]) (by rw [e2]; exact COK_set2 cok g.1 g.2) (by rw [e2]; exact ho) (by rw [e2]; rfl)
      exact ⟨r1.trans r2.symm, D2, W, rfl, f.obj (fun j => by unfold cuM; omega), hr, ht⟩
    · exact absurd g g'
  · rcases k2 with ⟨g', -⟩ | ⟨-, r2, e2⟩
    · exact absurd g' g
    · obtain ⟨hr, ht⟩ := h.newcup t f (by rw [c2, e1, e2]; exact h.2.1.1) (by rw [e2]; exact cok) (by rw [e2]; exact ho) (by rw [e2])
      exact ⟨r1.trans r2.symm, D2, W, rfl, f.obj (fun j => by unfold cuM; omega), hr, ht⟩
theorem R0.l5 (h : R0 D W N) : 1 ≤ D 5 0 ∧ D 5 0 ≤ 19 := ⟨h.1.1.1.1, h.1.1.1.2.1⟩
theorem J_wall (h : R0 D W N) (t : RT D) : Both n1 D W N mX9_wall mX10_wall [vi a, vi v] := by
  refine ⟨_, C_wall (d := 213) h.l5.1 h.l5.2, ?_⟩
  rintro x1 m1 ⟨D1, rfl, f1, k1⟩
  have c1 : mcup D1 = mcup D := mcup_fr f1 (fun j a b => by omega) (fun q j a b => by omega)
  have mb : MB D1 := COK.mb (by rw [c1]; exact h.run.2.1)
  refine ⟨D1, W, rfl, f1.obj (fun j => by omega), _, C_mwall (d := 218) mb.1 mb.2, ?_⟩
  rintro x2 m2 ⟨D2, rfl, f2, -, k2⟩
  have f : Fr cuM D D2 := (f1.mono (fun q j z => by unfold cuM; omega)).trans (f2.mono (fun q j z => by unfold cuM; omega))
  have c2 : cupv D2 5 = cupv D1 5 := cupv_fr f2 (fun q j a b => by omega)
  rw [c1] at k2
  rw [h.2.1.1] at k1
  have cok := h.run.2.1
  have ho := h.2.1.2
  rcases k1 with ⟨g, r1, e1⟩ | ⟨g, r1, e1⟩
  · rcases k2 with ⟨-, r2, e2⟩ | ⟨g', -⟩
    · obtain ⟨hr, ht⟩ := h.newcup t f (by rw [c2, e1, e2]) (by rw [e2]; exact COK_hole cok g.2.1 g.2.2) (by rw [e2]; exact HO_hole ho g.1.2) (by rw [e2]; rfl)
      exact ⟨r1.trans r2.symm, D2, W, rfl, f.obj (fun j => by unfold cuM; omega), hr, ht⟩
    · exact absurd g g'
  · rcases k2 with ⟨g', -⟩ | ⟨-, r2, e2⟩
    · exact absurd g' g
    · obtain ⟨hr, ht⟩ := h.newcup t f (by rw [c2, e1, e2]; exact h.2.1.1) (by rw [e2]; exact cok) (by rw [e2]; exact ho) (by rw [e2])
      exact ⟨r1.trans r2.symm, D2, W, rfl, f.obj (fun j => by unfold cuM; omega), hr, ht⟩
theorem J_sheet (h : R0 D W N) (t : RT D) : Both n1 D W N mX9_sheet mX10_sheet [vi a, vi b, vi v, vi k] := by
  refine ⟨_, C_sheet (d := 213) h.l5.1 h.l5.2, ?_⟩
  rintro x1 m1 ⟨D1, rfl, f1, r1, e1⟩
  have c1 : mcup D1 = mcup D := mcup_fr f1 (fun j a b => by omega) (fun q j a b => by omega)
  have mb : MB D1 := COK.mb (by rw [c1]; exact h.run.2.1)
  refine ⟨D1, W, rfl, f1.obj (fun j => by omega), _, C_msheet (d := 219) mb.1 mb.2 (by rw [c1]; exact h.2.1.2), ?_⟩
  rintro x2 m2 ⟨D2, rfl, f2, -, r2, e2⟩
  have f : Fr cuM D D2 := (f1.mono (fun q j z => by unfold cuM; omega)).trans (f2.mono (fun q j z => by unfold cuM; omega))
  have c2 : cupv D2 5 = cupv D1 5 := cupv_fr f2 (fun q j a b => by omega)
  rw [c1] at r2 e2
  rw [h.2.1.1] at r1 e1
  obtain ⟨z1, z2, z3⟩ := zsheet_ok (k := a) (n := b) (f := v) (st := k) h.run.2.1 h.2.1.2
  obtain ⟨hr, ht⟩ := h.newcup t f (by rw [c2, e1, e2]) (by rw [e2]; exact z1) (by rw [e2]; exact z2) (by rw [e2]; exact z3)
  exact ⟨r1.trans r2.symm, D2, W, rfl, f.obj (fun j => by unfold cuM; omega), hr, ht⟩
/-! the state -/
def stM (q : Nat) (j : Int) : Prop := (8 ≤ q ∧ q ≤ 15) ∨ (29 ≤ q ∧ q ≤ 44) ∨ q = 145 ∨ q = 148 ∨ q = 151 ∨ (q = 152 ∧ (j = 5 ∨ j = 10 ∨ j = 15 ∨ (18 ≤ j ∧ j ≤ 21) ∨ (36 ≤ j ∧ j ≤ 42) ∨ j = 44 ∨ j = 46)) ∨ (155 ≤ q ∧ q ≤ 158) ∨ q = 176
theorem R0.newst (h : R0 D W N) (t : RT D) (f : Fr stM D D') (hV : V12 W V) (hs : stv D' 8 = mst D') (hg : GS (mcup D) (mst D') (N + 1)) : R0 D' V (N + 1) ∧ RT D' := by
  obtain ⟨pa, pb, pc, pd, pe, pf, pg, pi⟩ := h
  obtain ⟨c1, c2⟩ := cup_fr f (fun q j z => by unfold uB at z; unfold stM; omega)
  have r : R0 D' W (N + 1) := ⟨pa.fr f (fun q j z => by unfold uA at z; unfold stM; omega) (by rw [c1]; exact pa.1.1), pb.cg c1 c2, ⟨hs, by rw [c2]; exact hg⟩, pd.fr f (fun q j z => by unfold uD at z; unfold stM; omega) (by rw [c2]), pe.fr pa.1 f (fun q j z => by unfold uE at z; unfold stM; omega), pf.fr pa.1 f (fun q j z => by unfold uF at z; unfold stM; omega), pg.fr f (fun q j z => by unfold uG at z; unfold stM; omega), pi.fr f (fun q j z => by unfold uI at z; unfold stM; omega)⟩
  exact ⟨r.vW (fun i hi => hV i (by omega)), t.fr f (fun q j z => by unfold uT at z; unfold stM; omega)⟩
theorem J_fresh (h : R0 D W N) (t : RT D) (hN : 0 ≤ N) : Both n1 D W N mX9_fresh mX10_fresh [] := by
  refine ⟨_, C_fresh (d := 213), ?_⟩
  rintro x1 m1 ⟨D1, rfl, f1, r1, e1⟩
  have c1 : mcup D1 = mcup D := mcup_fr f1 (fun j a b => by unfold s8F; omega) (fun q j a b => by unfold s8F; omega)
  have s1 : mst D1 = mst D := mst_fr f1 (by unfold s8F; omega) (by unfold s8F; omega) (fun q j a b => by unfold s8F; omega)
  refine ⟨D1, W, rfl, f1.obj (fun j => by unfold s8F; omega), _, C_mfresh (d := 219), ?_⟩
  rintro x2 m2 ⟨D2, rfl, f2, -, r2, e2⟩
  have f : Fr stM D D2 := (f1.mono (fun q j z => by unfold s8F at z; unfold stM; omega)).trans (f2.mono (fun q j z => by unfold mbF at z; unfold stM; omega))
  have s2 : stv D2 8 = stv D1 8 := stv_fr f2 (fun q j a b => by unfold mbF; omega)
  rw [c1, s1] at e2
  rw [s1] at r2
  rw [h.2.1.1, h.2.2.1.1] at e1
  rw [h.2.2.1.1] at r1
  have cok := h.run.2.1
  obtain ⟨hr, ht⟩ := h.newst t f V12.refl (by rw [s2, e1, e2]) (by rw [e2]; exact ⟨zfresh_SOK cok, zfresh_BK cok, by show (0 : Int) ≤ _; omega⟩)
  exact ⟨r1.trans r2.symm, D2, W, rfl, f.obj (fun j => by unfold stM; omega), hr, ht⟩
theorem mf0_of (h : BK (mcup D) (mst D)) (hb : MB D) : MF0 D := by
  intro r hr k k0 k1
  have q : ∀ r, BKr (cLast (mcup D)) (mrow D r) → D 156 (20 * r + k) = 0 := fun r z => by
    have := (z k (by show D 152 0 - 1 < k; omega) k1).2
    have e : (mrow D r).2.1 k = D 156 (20 * r + k) := if_pos ⟨by have := hb.1; omega, k1⟩
    rw [e] at this
    exact this
  rcases hr with rfl | rfl
  · exact q 0 h.1
  · exact q 1 h.2
theorem J_tilt (h : R0 D W N) (t : RT D) : Both n1 D W N mX9_tilt mX10_tilt [vi a, vi v] := by
  refine ⟨_, C_tilt (d := 213) h.l5.1 h.l5.2, ?_⟩
  rintro x1 m1 ⟨D1, rfl, f1, r1, e1⟩
  have c1 : mcup D1 = mcup D := mcup_fr f1 (fun j a b => by unfold s8F; omega) (fun q j a b => by unfold s8F; omega)
  have s1 : mst D1 = mst D := mst_fr f1 (by unfold s8F; omega) (by unfold s8F; omega) (fun q j a b => by unfold s8F; omega)
  have cok := h.run.2.1
  have mb : MB D1 := COK.mb (by rw [c1]; exact cok)
  have gs := h.2.2.1.2
  have rim : 0 ≤ D1 152 1 := by
    have q : 1 ≤ (mcup D1).2.1 := by rw [c1]; exact cok.2.2.1
    have q : 1 ≤ D1 152 1 := q
    omega
  refine ⟨D1, W, rfl, f1.obj (fun j => by unfold s8F; omega), _, C_mtilt (d := 218) mb.1 mb.2 rim (mf0_of (by rw [c1, s1]; exact gs.2.1) mb), ?_⟩
  rintro x2 m2 ⟨D2, rfl, f2, -, k2⟩
  rw [c1, s1] at k2
  rw [h.2.1.1, h.2.2.1.1] at e1
  by_cases g : (0 ≤ a ∧ a ≤ 1) ∧ (-500 ≤ v ∧ v ≤ 500)
  · rcases k2 with ⟨-, r2, e2⟩ | ⟨g', -⟩
    · have f : Fr stM D D2 := (f1.mono (fun q j z => by unfold s8F at z; unfold stM; omega)).trans (f2.mono (fun q j z => by unfold mlF at z; unfold stM; omega))
      have s2 : stv D2 8 = stv D1 8 := stv_fr f2 (fun q j a b => by unfold mlF; omega)
      rw [if_pos g] at e1
      obtain ⟨z1, z2⟩ := zTilt_ok (r := a) (t := v) cok gs.1 gs.2.1
      have z3 : sTick (zTilt (mcup D) (mst D) a v) = sTick (mst D) := by unfold zTilt; split <;> rfl
      obtain ⟨hr, ht⟩ := h.newst t f V12.refl (by rw [s2, e1, e2]) (by rw [e2]; exact ⟨z1, z2, by rw [z3]; have := gs.2.2; omega⟩)
      exact ⟨by rw [r1, r2]; exact if_pos g, D2, W, rfl, f.obj (fun j => by unfold stM; omega), hr, ht⟩
    · exact absurd g g'
  · rcases k2 with ⟨g', -⟩ | ⟨-, r2, e2⟩
    · exact absurd g' g
    · have f : Fr stM D D2 := (f1.mono (fun q j z => by unfold s8F at z; unfold stM; omega)).trans (f2.mono (fun q j z => by unfold mlF at z; unfold stM; omega))
      have s2 : stv D2 8 = stv D1 8 := stv_fr f2 (fun q j a b => by unfold mlF; omega)
      rw [if_neg g] at e1
      obtain ⟨hr, ht⟩ := h.newst t f V12.refl (by rw [s2, e1, e2]) (by rw [e2]; exact gs.mono (by omega))
      exact ⟨by rw [r1, r2]; exact if_neg g, D2, W, rfl, f.obj (fun j => by unfold stM; omega), hr, ht⟩
theorem J_tick (h : R0 D W N) (t : RT D) (hN : N ≤ 1000) : Both n1 D W N mX9_tick mX10_tick [vi a, vi v] := by
  have gs := h.2.2.1.2
  refine ⟨_, C_tick (d := 213) h.l5.1 h.l5.2 (by have e : sTick (stv D 8) = sTick (mst D) := by rw [h.2.2.1.1]
                                                 have e : D 8 0 = sTick (mst D) := e
                                                 rw [e]; exact gs.1.2.2), ?_⟩
  rintro x1 m1 ⟨D1, rfl, f1, k1⟩
  have c1 : mcup D1 = mcup D := mcup_fr f1 (fun j a b => by unfold s8F; omega) (fun q j a b => by unfold s8F; omega)
  have s1 : mst D1 = mst D := mst_fr f1 (by unfold s8F; omega) (by unfold s8F; omega) (fun q j a b => by unfold s8F; omega)
  have cok := h.run.2.1
  have mb : MB D1 := COK.mb (by rw [c1]; exact cok)
  refine ⟨D1, W, rfl, f1.obj (fun j => by unfold s8F; omega), _, C_mtick (d := 217) mb.1 mb.2 (by rw [s1]; exact gs.1), ?_⟩
  rintro x2 m2 ⟨D2, rfl, f2, -, k2⟩
  have f : Fr stM D D2 := (f1.mono (fun q j z => by unfold s8F at z; unfold stM; omega)).trans (f2.mono (fun q j z => by unfold mpsF at z; unfold stM; omega))
  have s2 : stv D2 8 = stv D1 8 := stv_fr f2 (fun q j a b => by unfold mpsF; omega)
  rw [c1, s1] at k2
  rw [h.2.1.1, h.2.2.1.1] at k1
  rcases k1 with ⟨g, e1⟩ | ⟨g, r1, e1⟩
  · rcases k2 with ⟨-, e2⟩ | ⟨g', -⟩
    · have e := e1.trans e2.symm
      obtain ⟨z1, -, -, z4⟩ := ztick_phys (pa := a) (pc := v) cok gs.1 (by have := gs.2.2; omega)
      have e2' : mst D2 = (ztick (mcup D) a v (mst D)).2 := congrArg Prod.snd e2
      obtain ⟨hr, ht⟩ := h.newst t f V12.refl (by rw [s2]; exact congrArg Prod.snd e) (by rw [e2']; exact ⟨z1, ztick_BK cok gs.2.1, by rw [z4]; have := gs.2.2; omega⟩)
      exact ⟨congrArg Prod.fst e, D2, W, rfl, f.obj (fun j => by unfold stM; omega), hr, ht⟩
    · exact absurd g g'
  · rcases k2 with ⟨g', -⟩ | ⟨-, r2, e2⟩
    · exact absurd g' g
    · obtain ⟨hr, ht⟩ := h.newst t f V12.refl (by rw [s2, e1, e2]; exact h.2.2.1.1) (by rw [e2]; exact gs.mono (by omega))
      exact ⟨r1.trans r2.symm, D2, W, rfl, f.obj (fun j => by unfold stM; omega), hr, ht⟩
theorem J_seed (h : R0 D W N) (t : RT D) : Both n1 D W N mX9_seed mX10_seed [vi v] := by
  have gs := h.2.2.1.2
  refine ⟨_, C_seed (d := 213), ?_⟩
  rintro x1 m1 ⟨D1, rfl, f1, r1, e1⟩
  have s1 : mst D1 = mst D := mst_fr f1 (by unfold s8F; omega) (by unfold s8F; omega) (fun q j a b => by unfold s8F; omega)
  refine ⟨D1, W, rfl, f1.obj (fun j => by unfold s8F; omega), _, C_mseed (d := 220), ?_⟩
  rintro x2 m2 ⟨D2, rfl, f2, -, r2, e2⟩
  have f : Fr stM D D2 := (f1.mono (fun q j z => by unfold s8F at z; unfold stM; omega)).trans (f2.mono (fun q j z => by unfold stM; omega))
  have s2 : stv D2 8 = stv D1 8 := stv_fr f2 (fun q j a b => by omega)
  have e2' : mst D2 = (sTick (mst D), v, (mst D).2.2) := by
    rw [← s1]
    show (D2 152 5, D2 152 10, mrow D2 0, mrow D2 1, cut 21 (D2 158)) = (D1 152 5, v, mrow D1 0, mrow D1 1, cut 21 (D1 158))
    have m0 : mrow D2 0 = mrow D1 0 := mrow_fr f2 (fun k a b => by omega) (fun k a b => by omega) (by omega)
    have m1 : mrow D2 1 = mrow D1 1 := mrow_fr f2 (fun k a b => by omega) (fun k a b => by omega) (by omega)
    rw [m0, m1, e2, f2.obj (o := 158) (fun j => by omega), f2 152 5 (by omega)]
  rw [h.2.2.1.1] at r1 e1
  obtain ⟨hr, ht⟩ := h.newst t f V12.refl (by rw [s2, e1, e2']) (by rw [e2']; exact ⟨gs.1, gs.2.1, by have := gs.2.2; show sTick (mst D) ≤ 1000 * (N + 1); omega⟩)
  have r2' : x2 = sDrawn (mst D) := by rw [r2, ← s1]; rfl
  exact ⟨r1.trans r2'.symm, D2, W, rfl, f.obj (fun j => by unfold stM; omega), hr, ht⟩
theorem zgo_facts {c : Cv} {L : Option (List Int)} {w : Wv} {s : Sv} {fr n : Int} (hc : COK c) (hs : SOK s) (hb : BK c s) (ht : sTick s ≤ 1000000) (hw : wTicks w ≤ 1000) (f0 : 0 ≤ fr) : SOK (zS (zgoZ c L w s fr n)) ∧ BK c (zS (zgoZ c L w s fr n)) ∧ sTick (zS (zgoZ c L w s fr n)) ≤ sTick s + 1000 := by
  have hk : (min (fr + n) (wTicks w) - fr).toNat ≤ 1000 := by omega
  have z0 : ZOK (zgo0 s) := ⟨hs, by show (0 : Int) ≤ 0; decide⟩
  have q := zrun_phys (cap := 1040) (c := c) (L := L) (w := w) (t := fun _ => 0) hc (n := (min (fr + n) (wTicks w) - fr).toNat) (i := fr) (z := zgo0 s) z0 (by show (0 : Int) + _ < _; omega) (by show sTick s + _ < _; omega)
  refine ⟨q.1.1, zrun_BK hc (z := zgo0 s) hb, ?_⟩
  have e := q.2.2.2
  have e0 : sTick (zS (zgo0 s)) = sTick s := rfl
  show sTick (zS (zrun 1040 c L w (fun _ => 0) (min (fr + n) (wTicks w) - fr).toNat fr (zgo0 s))) ≤ _
  omega
theorem J_go (h : R0 D W N) (t : RT D) (h0 : 0 ≤ N) (hN : N ≤ 1000) : Both n1 D W N mX9_go mX10_go [vi a, vi v, vi k] := by
  have gs := h.2.2.1.2
  have e8 : stv D 8 = mst D := h.2.2.1.1
  have tk : sTick (mst D) ≤ 1000000 := by have := gs.2.2; omega
  refine ⟨_, C_go (d := 213) h.1.1 (by rw [e8]; exact gs.1) (by have e : sTick (stv D 8) = sTick (mst D) := by rw [e8]
                                                                have e : D 8 0 = sTick (mst D) := e
                                                                rw [e]; exact tk), ?_⟩
  rintro x1 m1 ⟨D1, rfl, f1, k1⟩
  have m : ∀ q, 152 ≤ q → D1 q = D q := fun q hq => f1.obj (fun j => by unfold s8F aF; omega)
  obtain ⟨c1, wk, s1, -, -, -⟩ := m_sees m
  have cok := h.run.2.1
  have lw : lawsv D1 W = lawsv D W := laws_fr f1 h.1.1.2.2.1 (fun _ _ => rfl) (fun q j z => by unfold s8F aF; omega)
  have mr : MRun D1 (lawsv D W) := by
    obtain ⟨a1, a2, a3, a4, a5⟩ := h.run
    have pf : Pf D1 W := h.2.2.2.2.2.1.fr h.1.1 f1 (fun q j z => by unfold uF at z; unfold s8F aF; omega)
    exact ⟨COK.mb (by rw [c1]; exact a2), by rw [c1]; exact a2, by rw [s1]; exact a3, by rw [← lw]; exact pf, fun a a0 a1 => by rw [m 161 (by decide)]; exact a5 a a0 a1⟩
  have q := (h.hl m).2
  refine ⟨D1, W, rfl, f1.obj (fun j => by unfold s8F aF; omega), _, C_mgo (d := 90) mr (by rw [s1]; exact tk), ?_⟩
  rintro x2 m2 ⟨D2, V, rfl, hV, f2, -, k2⟩
  have f : Fr stM D D2 := (f1.mono (fun q j z => by unfold s8F aF at z; unfold stM; omega)).trans (f2.mono (fun q j z => by unfold mgF at z; unfold stM; omega))
  have s2 : stv D2 8 = stv D1 8 := stv_fr f2 (fun q j a b => by unfold mgF; omega)
  rw [c1, s1, q, wk] at k2
  rw [h.2.1.1, e8] at k1
  rcases k1 with ⟨g, r1, e1⟩ | ⟨g, r1, e1⟩
  · rcases k2 with ⟨-, r2, e2⟩ | ⟨g', -⟩
    · rw [h.we a g.1.1 g.1.2] at r2 e2
      obtain ⟨z1, z2, z3⟩ := zgo_facts (L := hcode D W) (w := wsv D W a) (fr := v) (n := k) cok gs.1 gs.2.1 tk (by rw [← h.we a g.1.1 g.1.2]; exact ((h.2.2.2.2.1 a g.1.1 g.1.2).2.1).2.2) g.2.1.1
      obtain ⟨hr, ht⟩ := h.newst t f hV (by rw [s2, e1, e2]) (by rw [e2]; exact ⟨z1, z2, by have := gs.2.2; omega⟩)
      exact ⟨r1.trans r2.symm, D2, V, rfl, f.obj (fun j => by unfold stM; omega), hr, ht⟩
    · exact absurd g g'
  · rcases k2 with ⟨g', -⟩ | ⟨-, r2, e2⟩
    · exact absurd g' g
    · obtain ⟨hr, ht⟩ := h.newst t f hV (by rw [s2, e1, e2]; exact e8) (by rw [e2]; exact gs.mono (by omega))
      exact ⟨r1.trans r2.symm, D2, V, rfl, f.obj (fun j => by unfold stM; omega), hr, ht⟩
end JMU
