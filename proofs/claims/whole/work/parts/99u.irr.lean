/-! ===== stir, and the four calls that may throw ===== -/
section GIR
variable {n1 : Nat} {D : DD} {W : Nat → Nat} {N i : Int} {bc bs : Nat}
theorem C_mthrown {d : Nat} : Cl d 0 0 mX10_thrown [vr 152] (D, rho n1 W) (KI (fun r m => r = D 152 15 ∧ m = (D, rho n1 W))) :=
  Cl_of mb_X10_thrown (Nat.le_of_ble_eq_true rfl) (sg_X10_thrown_0 ⟨rfl, _, rfl, rfl, rfl⟩)
theorem cmp_0 {x y : Int} (h : x = y) : (if y < x then (1 : Int) else if x = y then 0 else -1) = 0 := by
  subst h
  rw [if_neg (Int.lt_irrefl _), if_pos rfl]
theorem G_1553 (h : R0 D W N) (t : RT D) (i1 : IX n1 i) (k : Kt n1 bc bs D N i) : Wp 221 bc bs mL_law 1553 (LSt i) [] (D, rho n1 W) LQ := by
  refine sg_L_law_1553 (d := 220) (a0 := 1) (a1 := 4) (a2 := 152) (a3 := 193) (a4 := i) ⟨Or.inr ⟨by decide, rfl⟩, i1 1 (by decide) (by decide), rfl, cL (C_stir (d := 213) h.l5.1 h.l5.2) (fun x1 m1 h1 => ?_)⟩
  obtain ⟨r1, rfl⟩ := h1
  refine ⟨Or.inr ⟨by decide, rfl⟩, i1 1 (by decide) (by decide), rfl, cL (C_mstir (d := 219) h.run.1) (fun x2 m2 h2 => ?_)⟩
  obtain ⟨D2, rfl, f2, -, r2⟩ := h2
  have e : x1 = x2 := by rw [r1, r2, h.2.1.1, h.2.2.1.1]
  obtain ⟨hr, ht⟩ := h.same t f2
  exact ⟨fun _ => Wp.room (Nat.sub_le _ _) (Nat.sub_le _ _) (k D2 W (f2.obj (fun j => by omega)) hr ht), fun z => absurd (cmp_0 e) z⟩
theorem R0.wr190 {y : Int} (h : R0 D W N) (t : RT D) : R0 (wr D 193 0 y) W N ∧ RT (wr D 193 0 y) := by
  have f : Fr (fun q _ => q = 193) D (wr D 193 0 y) := Fr.refl.wr rfl
  obtain ⟨pa, pb, pc, pd, pe, pf, pg, pi⟩ := h
  obtain ⟨c1, c2⟩ := cup_fr f (fun q j z => by unfold uB at z; omega)
  have e : ∀ q, q ≠ 193 → wr D 193 0 y q = D q := fun q hq => wr_o hq
  exact ⟨⟨pa.fr f (fun q j z => by unfold uA at z; omega) (by rw [c1]; exact pa.1.1), pb.cg c1 c2, pc.cg (Int.le_refl _) (stv_fr f (fun q j a b => by omega)) (mst_fr f (by omega) (by omega) (fun q j a b => by omega)) c2, pd.cg (Int.le_refl _) (by rw [e 4 (by decide)]) (fun i i0 i1 => ⟨by rw [e 191 (by decide)], by rw [e 192 (by decide)], stv_fr f (fun q j a b => by omega), mkv_fr f (fun j a b => by omega)⟩) (by rw [e 152 (by decide)]) c2, pe.fr pa.1 f (fun q j z => by unfold uE at z; omega), pf.fr pa.1 f (fun q j z => by unfold uF at z; omega), pg.fr f (fun q j z => by unfold uG at z; omega), pi.fr f (fun q j z => by unfold uI at z; omega)⟩, t.fr f (fun q j z => by unfold uT at z; omega)⟩
/-- behind a call that may throw -/
theorem thr_tail {D2 : DD} {W2 : Nat → Nat} {o : Option Int} {x1 x2 : Int} (h2 : R0 D2 W2 (N + 1) ∧ RT D2) (e2 : D2 1 = D 1) (hx : (o = none ∧ x1 = 1) ∨ ∃ y, o = some y ∧ x1 = 0 ∧ D2 193 0 = y) (hl : Lost o x2 D2) (k : Kt n1 bc bs D N i) {b1 b2 : Nat} (hb1 : bc - 1 ≤ b1) (hb2 : bs - 6 ≤ b2) :
    ∀ x3 m3, (x3 = D2 152 15 ∧ m3 = (D2, rho n1 W2)) → (x3 = x1 → (¬ x1 = 0 → Wp (220 + 1) b1 b2 mL_law 1933 (LSt i) [] m3 LQ) ∧ (x1 = 0 → mK m3 193 = 21 ∧ ((0 : Int) ≤ 0 ∧ 0 < (mN m3 193 : Int)) ∧ (((if x2 < mD m3 193 0 then (1 : Int) else if mD m3 193 0 = x2 then 0 else -1) = 0 → Wp (220 + 1) b1 b2 mL_law 1933 (LSt i) [] m3 LQ) ∧ (¬ (if x2 < mD m3 193 0 then (1 : Int) else if mD m3 193 0 = x2 then 0 else -1) = 0 → LQ (some (some (vi 0))) m3)))) ∧ (¬ x3 = x1 → LQ (some (some (vi 0))) m3) := by
  rintro x3 m3 ⟨r3, rfl⟩
  have go : Wp (220 + 1) b1 b2 mL_law 1933 (LSt i) [] (D2, rho n1 W2) LQ := Wp.room hb1 hb2 (k D2 W2 e2 h2.1 h2.2)
  rcases hx with ⟨e, r1⟩ | ⟨y, e, r1, e190⟩
  · rcases hl with ⟨v, e', -, -⟩ | ⟨-, r⟩
    · rw [e] at e'
      cases e'
    · exact ⟨fun _ => ⟨fun _ => go, fun z => by omega⟩, fun z => absurd (by rw [r3, r1, r]) z⟩
  · rcases hl with ⟨v, e', rv, r⟩ | ⟨e', -⟩
    · rw [e] at e'
      have e' := Option.some.inj e'
      have q : D2 193 0 = x2 := by rw [e190, rv, e']
      exact ⟨fun _ => ⟨fun z => absurd r1 z, fun _ => ⟨rfl, ⟨by decide, by show (0 : Int) < ((1 : Nat) : Int); decide⟩, fun _ => go, fun z => absurd (cmp_0 q) z⟩⟩, fun z => absurd (by rw [r3, r1, r]) z⟩
    · rw [e] at e'
      cases e'
theorem cC {d mc ms : Nat} {M : MI} {av : List AV} {μ : Mem} {bc bs : Nat} {K : Int → Mem → Prop} {P : Nat → Nat → Int → Mem → Prop} (hC : Cl d mc ms M av μ (KI K)) (h1 : mc ≤ bc) (h2 : ms ≤ bs) (k : ∀ x m, K x m → P mc ms x m) :
    ∃ (mc1 ms1 : Nat) (K1 : Int → Mem → Prop), Cl d mc1 ms1 M av μ (KI K1) ∧ mc1 ≤ bc ∧ ms1 ≤ bs ∧ (∀ x1 m1, K1 x1 m1 → P mc1 ms1 x1 m1) := ⟨mc, ms, K, hC, h1, h2, k⟩
/-- what the model sees is as it was -/
def SV (D D1 : DD) (W : Nat → Nat) : Prop := D1 1 = D 1 ∧ mcup D1 = mcup D ∧ mst D1 = mst D ∧ lawsv D1 W = lawsv D W ∧ MTV D1 = MTV D
theorem thr_head {o : Option Int} {P : Option Int → Mem → Prop} {x1 : Int} {m1 : Mem} (hP : ∀ x m, P x m → x = o ∧ ∃ D1 : DD, m = (D1, rho n1 W) ∧ R0 D1 W N ∧ RT D1 ∧ SV D D1 W) (h1 : Hq P x1 m1) :
    ∃ D1 : DD, R0 D1 W N ∧ RT D1 ∧ SV D D1 W ∧ ((o = none ∧ x1 = 1) ∨ ∃ y, o = some y ∧ x1 = 0 ∧ D1 193 0 = y) ∧ m1 = (D1, rho n1 W) := by
  obtain ⟨m0, hh⟩ := h1
  rcases hh with ⟨p, r1, em⟩ | ⟨y, p, r1, em⟩
  · obtain ⟨e, D1, rfl, a, b, c⟩ := hP _ _ p
    exact ⟨D1, a, b, c, Or.inl ⟨e.symm, r1⟩, em⟩
  · obtain ⟨e, D1, rfl, a, b, c1, c2, c3, c4, c5⟩ := hP _ _ p
    have f : Fr (fun q _ => q = 193) D1 (wr D1 193 0 y) := Fr.refl.wr rfl
    obtain ⟨q1, q2⟩ := a.wr190 (y := y) b
    refine ⟨wr D1 193 0 y, q1, q2, ⟨(wr_o (by decide)).trans c1, (cup_fr f (fun q j z => by unfold uB at z; omega)).2.trans c2, (mst_fr f (by omega) (by omega) (fun q j a b => by omega)).trans c3, (laws_fr f a.1.1.2.2.1 (fun _ _ => rfl) (fun q j z => by omega)).trans c4, (mtv_fr f (by omega) (fun j => by omega)).trans c5⟩, Or.inr ⟨y, e.symm, r1, wr_at⟩, em⟩
theorem SV.refl : SV D D W := ⟨rfl, rfl, rfl, rfl, rfl⟩
theorem G_519 (h : R0 D W N) (t : RT D) (i1 : IX n1 i) (hb : 1 ≤ bc ∧ 6 ≤ bs) (k : Kt n1 bc bs D N i) : Wp 221 bc bs mL_law 519 (LSt i) [] (D, rho n1 W) LQ := by
  refine sg_L_law_519 (d := 220) (a0 := 1) (a1 := 4) (a2 := 152) (a3 := 193) (a4 := i) ⟨Or.inr ⟨by decide, rfl⟩, i1 1 (by decide) (by decide), i1 2 (by decide) (by decide), i1 3 (by decide) (by decide), cC (H_cell (d := 219) (C_cell (d := 212) h.l5.1 h.l5.2) (fun o m z => ⟨D, W, z.2⟩)) hb.1 hb.2 (fun x1 m1 h1 => ?_)⟩
  obtain ⟨D1, hr, ht, ⟨e1, c1, s1, -, -⟩, hx, rfl⟩ := thr_head (D := D) (W := W) (N := N) (fun x m z => ⟨z.1, D, z.2, h, t, SV.refl⟩) h1
  rw [h.2.1.1, h.2.2.1.1] at hx
  refine ⟨Or.inr ⟨by decide, rfl⟩, i1 1 (by decide) (by decide), i1 2 (by decide) (by decide), i1 3 (by decide) (by decide), rfl, cI (C_mcell (d := 219) hr.run.1) (fun x2 m2 h2 => ?_)⟩
  obtain ⟨D2, rfl, f2, hl⟩ := h2
  rw [c1, s1] at hl
  have hl : Lost (zcell (mcup D) (mst D) (D1 1 (w32 (i + 1))) (D1 1 (w32 (i + 2))) (D1 1 (w32 (i + 3)))) x2 D2 := hl
  rw [e1] at hl
  exact ⟨rfl, cI C_mthrown (thr_tail (hr.same ht f2) ((f2.obj (fun j => by omega)).trans e1) (by rw [f2 193 0 (by omega)]; exact hx) hl k (Nat.le_refl _) (Nat.le_refl _))⟩
theorem G_599 (h : R0 D W N) (t : RT D) (i1 : IX n1 i) (hb : 1 ≤ bc ∧ 6 ≤ bs) (k : Kt n1 bc bs D N i) : Wp 221 bc bs mL_law 599 (LSt i) [] (D, rho n1 W) LQ := by
  refine sg_L_law_599 (d := 220) (a0 := 1) (a1 := 4) (a2 := 152) (a3 := 193) (a4 := i) ⟨Or.inr ⟨by decide, rfl⟩, i1 1 (by decide) (by decide), i1 2 (by decide) (by decide), cC (H_of (d := 219) (C_of (d := 212) h.l5.1 h.l5.2) (fun o m z => ⟨D, W, z.2⟩)) hb.1 hb.2 (fun x1 m1 h1 => ?_)⟩
  obtain ⟨D1, hr, ht, ⟨e1, c1, s1, -, -⟩, hx, rfl⟩ := thr_head (D := D) (W := W) (N := N) (fun x m z => ⟨z.1, D, z.2, h, t, SV.refl⟩) h1
  rw [h.2.1.1, h.2.2.1.1] at hx
  refine ⟨Or.inr ⟨by decide, rfl⟩, i1 1 (by decide) (by decide), i1 2 (by decide) (by decide), rfl, cI (C_mof (d := 219) hr.run.1) (fun x2 m2 h2 => ?_)⟩
  obtain ⟨D2, rfl, f2, hl⟩ := h2
  rw [c1, s1] at hl
  have hl : Lost (zof (mcup D) (mst D) (D1 1 (w32 (i + 1))) (D1 1 (w32 (i + 2)))) x2 D2 := hl
  rw [e1] at hl
  exact ⟨rfl, cI C_mthrown (thr_tail (hr.same ht f2) ((f2.obj (fun j => by omega)).trans e1) (by rw [f2 193 0 (by omega)]; exact hx) hl k (Nat.le_refl _) (Nat.le_refl _))⟩
theorem G_1878 (h : R0 D W N) (t : RT D) (i1 : IX n1 i) (hb : 1 ≤ bc ∧ 6 ≤ bs) (k : Kt n1 bc bs D N i) : Wp 221 bc bs mL_law 1878 (LSt i) [] (D, rho n1 W) LQ := by
  have e16 : D 4 16 = D 152 14 := congrArg Prod.snd t.1
  refine sg_L_law_1878 (d := 220) (a0 := 1) (a1 := 4) (a2 := 152) (a3 := 193) (a4 := i) ⟨Or.inr ⟨by decide, rfl⟩, i1 1 (by decide) (by decide), cC (H_row (d := 219) (C_row (d := 212) (by rw [e16]; exact t.2.1) (by rw [e16]; exact t.2.2)) (fun o m z => ⟨D, W, z.2⟩)) hb.1 hb.2 (fun x1 m1 h1 => ?_)⟩
  obtain ⟨D1, hr, ht, ⟨e1, c1, s1, -, c5⟩, hx, rfl⟩ := thr_head (D := D) (W := W) (N := N) (fun x m z => ⟨z.1, D, z.2, h, t, SV.refl⟩) h1
  rw [t.1] at hx
  refine ⟨Or.inr ⟨by decide, rfl⟩, i1 1 (by decide) (by decide), rfl, cL (C_mrow (d := 219) ht.2.1 (by have := ht.2.2; omega)) (fun x2 m2 h2 => ?_)⟩
  obtain ⟨D2, rfl, f2, hl⟩ := h2
  rw [c5] at hl
  have hl : Lost (if 0 ≤ D1 1 (w32 (i + 1)) ∧ D1 1 (w32 (i + 1)) ≤ (MTV D).2 - 1 then some ((MTV D).1.getD (D1 1 (w32 (i + 1))).toNat 0) else none) x2 D2 := hl
  rw [e1] at hl
  exact ⟨rfl, cI C_mthrown (thr_tail (hr.same ht f2) ((f2.obj (fun j => by omega)).trans e1) (by rw [f2 193 0 (by omega)]; exact hx) hl k (Nat.le_refl _) (Nat.le_refl _))⟩
theorem G_767 (h : R0 D W N) (t : RT D) (i1 : IX n1 i) (hb : 1 ≤ bc ∧ 6 ≤ bs) (k : Kt n1 bc bs D N i) : Wp 221 bc bs mL_law 767 (LSt i) [] (D, rho n1 W) LQ := by
  have gs := h.2.2.1.2
  have t8 : 0 ≤ D 8 0 := by
    have e : sTick (stv D 8) = sTick (mst D) := by rw [h.2.2.1.1]
    have e : D 8 0 = sTick (mst D) := e
    rw [e]
    exact gs.1.2.2
  refine sg_L_law_767 (d := 220) (a0 := 1) (a1 := 4) (a2 := 152) (a3 := 193) (a4 := i) ⟨Or.inr ⟨by decide, rfl⟩, i1 1 (by decide) (by decide), i1 2 (by decide) (by decide), cC (H_gives (d := 219) (C_gives (d := 212) h.1.1 t8) (fun o m ⟨D1, z, _⟩ => ⟨D1, W, z⟩)) hb.1 hb.2 (fun x1 m1 h1 => ?_)⟩
  obtain ⟨D1, hr, ht, ⟨e1, c1, s1, lw, -⟩, hx, rfl⟩ := thr_head (D := D) (W := W) (N := N) (fun x m ⟨D1, z, f, r⟩ => by
    obtain ⟨q1, q2, q3⟩ := h.cls (W' := W) (f.mono (fun q j y => Or.inl y)) (fun _ _ => rfl) (by
      have q := h.1.1.2.1 4 (by decide)
      unfold walkId at q
      rw [f (W 4) 4 (by unfold aF; omega)]
      exact h.1.1.2.2.2 4 (by decide))
    obtain ⟨v1, v2, v3, -, -, -⟩ := m_sees q3
    exact ⟨r, D1, z, q1, t.fr f (fun q j y => by unfold uT at y; unfold aF; omega), f.obj (fun j => by unfold aF; omega), v1, v3, q2, mtv_fr f (by unfold aF; omega) (fun j => by unfold aF; omega)⟩) h1
  rw [h.2.1.1, h.2.2.1.1] at hx
  refine ⟨Or.inr ⟨by decide, rfl⟩, i1 1 (by decide) (by decide), i1 2 (by decide) (by decide), rfl, cI (C_mgives (d := 91) hr.run) (fun x2 m2 h2 => ?_)⟩
  obtain ⟨D2, V, rfl, hV, f2, hl⟩ := h2
  rw [c1, s1, lw] at hl
  have hl : Lost (zgives (mcup D) (lawsv D W) (mst D) (D1 1 (w32 (i + 1))) (D1 1 (w32 (i + 2)))) x2 D2 := hl
  rw [e1] at hl
  have f2' : Fr stM D1 D2 := f2.mono (fun q j z => by unfold byF at z; unfold stM; omega)
  have s2 : stv D2 8 = stv D1 8 := stv_fr f2 (fun q j a b => by unfold byF; omega)
  have m2 : mst D2 = mst D1 := mst_fr f2 (by unfold byF; omega) (by unfold byF; omega) (fun q j a b => by unfold byF; omega)
  exact ⟨rfl, cI C_mthrown (thr_tail (hr.newst ht f2' hV (by rw [s2, m2]; exact hr.2.2.1.1) (by rw [m2]; exact hr.2.2.1.2.mono (by omega))) ((f2.obj (fun j => by unfold byF; omega)).trans e1) (by rw [f2 193 0 (by unfold byF; omega)]; exact hx) hl k (Nat.le_refl _) (Nat.le_refl _))⟩
end GIR
