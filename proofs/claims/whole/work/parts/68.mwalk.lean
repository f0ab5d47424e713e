/-! ===== the model's WALK, read: parts ===== -/
def mwv (D : DD) (s : Int) : Wv := (D 152 32, s, cut (D 152 32) (D 167), cut (D 152 32) (D 168), cut (D 152 32) (D 169), cut (D 152 32) (D 170))
def MwR (D : DD) (W : Nat → Nat) (t : Int → Int) (en : Int) (x : Ws) (s : Int) : Prop := MxR D W t en x.1 ∧ (0 ≤ D 152 32 ∧ D 152 32 ≤ 1000) ∧ (x.1.2 = -1 → mwv D s = x.2.1 ∧ D 152 33 = x.2.2 ∧ 0 ≤ s ∧ s ≤ D 152 32)
def myF (q : Nat) (j : Int) : Prop := (q = 152 ∧ j = 32) ∨ (167 ≤ q ∧ q ≤ 170)
def mwF (q : Nat) (j : Int) : Prop := (q = 152 ∧ (j = 20 ∨ j = 21 ∨ j = 32 ∨ j = 33)) ∨ (167 ≤ q ∧ q ≤ 170)
section MWK
variable {d n1 : Nat} {W : Nat → Nat} {D : DD} {t : Int → Int} {en : Int} {p : Ps} {v : Wv} {wa : Int}
theorem mwv_fr {D' : DD} {F : Nat → Int → Prop} {s : Int} (f : Fr F D D') (n1 : ¬ F 152 32) (n2 : ∀ q j, 167 ≤ q → q ≤ 170 → ¬ F q j) : mwv D' s = mwv D s := by
  unfold mwv
  rw [f 152 32 n1, f.obj (o := 167) (fun j => n2 _ j (by decide) (by decide)), f.obj (o := 168) (fun j => n2 _ j (by decide) (by decide)), f.obj (o := 169) (fun j => n2 _ j (by decide) (by decide)), f.obj (o := 170) (fun j => n2 _ j (by decide) (by decide))]
theorem mxw {D' : DD} {s : Int} (f : Fr mxF D D') : mwv D' s = mwv D s ∧ D' 152 33 = D 152 33 ∧ D' 152 32 = D 152 32 :=
  ⟨mwv_fr f (by unfold mxF; omega) (fun q j a b => by unfold mxF; omega), f 152 33 (by unfold mxF; omega), f 152 32 (by unfold mxF; omega)⟩
theorem myt {D' : DD} (f : Fr myF D D') (h : MxR D W t en p) : MxR D' W t en p :=
  h.fr f (fun j a b => by unfold myF; omega) (fun j => by have := h.2.2.2.2.2.2.2.1; unfold mtId at this; unfold myF; omega)
theorem mwF_x {D' : DD} (f : Fr mxF D D') : Fr mwF D D' := f.mono (fun q j h => by unfold mxF at h; unfold mwF; omega)
theorem mwF_y {D' : DD} (f : Fr myF D D') : Fr mwF D D' := f.mono (fun q j h => by unfold myF at h; unfold mwF; omega)
theorem C_lay {al ac st s : Int} (t0 : 0 ≤ D 152 32) (t1 : D 152 32 < 1000) : Cl d 0 0 mX10_lay [vr 152, vi al, vi ac, vi st] (D, rho n1 W) (KV (fun m => ∃ D', m = (D', rho n1 W) ∧ Fr myF D D' ∧ mwv D' s = wPut (mwv D s) al ac (D 152 33) st ∧ D' 152 33 = D 152 33 ∧ D' 152 32 = D 152 32 + 1)) := by
  refine Cl_of mb_X10_lay (Nat.le_of_ble_eq_true rfl) (sg_X10_lay_0 ⟨rfl, rfl, bnd (N := 1000) rfl t0 t1, fun m1 e1 => ?_⟩)
  have e1 : m1 = (wr D 167 (D 152 32) al, rho n1 W) := e1
  subst e1
  refine ⟨rfl, bnd (N := 1000) rfl t0 t1, fun m2 e2 => ?_⟩
  have e2 : m2 = (wr (wr D 167 (D 152 32) al) 168 (D 152 32) ac, rho n1 W) := e2
  subst e2
  refine ⟨rfl, bnd (N := 1000) rfl t0 t1, fun m3 e3 => ?_⟩
  have e3 : m3 = (wr (wr (wr D 167 (D 152 32) al) 168 (D 152 32) ac) 169 (D 152 32) (D 152 33), rho n1 W) := e3
  subst e3
  refine ⟨rfl, bnd (N := 1000) rfl t0 t1, fun m4 e4 m5 e5 => ?_⟩
  have w1 : w32 (D 152 32 + 1) = D 152 32 + 1 := w32_id (by omega) (by omega)
  have e5 : m5 = (wr (wr (wr (wr (wr D 167 (D 152 32) al) 168 (D 152 32) ac) 169 (D 152 32) (D 152 33)) 170 (D 152 32) st) 152 32 (D 152 32 + 1), rho n1 W) := by
    rw [e5, e4, ← w1]
    rfl
  refine ⟨rfl, _, e5, ?_, ?_, ?_, wr_at⟩
  · exact ((((Fr.refl.wr (by unfold myF; omega)).wr (by unfold myF; omega)).wr (by unfold myF; omega)).wr (by unfold myF; omega)).wr (by unfold myF; omega)
  · unfold mwv wPut
    rw [wr_at]
    rw [wr_o (o := 167) (by decide), wr_o (o := 168) (by decide), wr_o (o := 169) (by decide), wr_o (o := 170) (by decide)]
    rw [wr_o (o := 167) (by decide), wr_o (o := 167) (by decide), wr_o (o := 167) (by decide), wr_A, wr_o (o := 168) (by decide), wr_o (o := 168) (by decide), wr_A, wr_o (o := 168) (by decide), wr_o (o := 169) (by decide), wr_A, wr_o (o := 169) (by decide), wr_o (o := 169) (by decide), wr_A, wr_o (o := 170) (by decide), wr_o (o := 170) (by decide), wr_o (o := 170) (by decide)]
    rw [cut_push t0, cut_push t0, cut_push t0, cut_push t0]
    rfl
  · rw [wr_j (by decide), wr_o (by decide), wr_o (by decide), wr_o (by decide), wr_o (by decide)]
theorem mroom_no {G : DD} {n s : Int} {v' : Wv} (hb : 0 ≤ D 152 32 ∧ D 152 32 ≤ 1000) (f : Fr mxF D G) (hv : p.2 = -1 → mwv D s = v ∧ D 152 33 = wa ∧ 0 ≤ s ∧ s ≤ D 152 32) (hT : MxR G W t en (if p.2 = -1 ∧ ¬ D 152 32 + n ≤ 1000 then (p.1, p.1 - 1) else p)) (no : ¬ (p.2 = -1 ∧ D 152 32 + n ≤ 1000)) (hp : p.2 = -1 → 1 ≤ p.1) : MwR G W t en (zroom n p v v' wa) s ∧ ¬ (zroom n p v v' wa).1.2 = -1 := by
  obtain ⟨a1, a2, a3⟩ := mxw (s := s) f
  by_cases g : p.2 = -1
  · have no2 : ¬ D 152 32 + n ≤ 1000 := fun z => no ⟨g, z⟩
    have e : zroom n p v v' wa = ((p.1, p.1 - 1), v, wa) := by
      unfold zroom
      rw [if_pos g, if_neg]
      rw [← (hv g).1]
      exact no2
    rw [if_pos ⟨g, no2⟩] at hT
    have nz : ¬ p.1 - 1 = -1 := by
      have := hp g
      omega
    rw [e]
    exact ⟨⟨hT, by rw [a3]; exact hb, fun z => absurd z nz⟩, nz⟩
  · rw [if_neg (fun z => g z.1)] at hT
    have e : zroom n p v v' wa = (p, v, wa) := if_neg g
    rw [e]
    exact ⟨⟨hT, by rw [a3]; exact hb, fun z => absurd z g⟩, g⟩
theorem mroom_yes {H : DD} {n s : Int} {v' : Wv} (g : p.2 = -1) (hv : wTicks v + n ≤ 1000) (hT : MxR H W t en p) (h4 : 0 ≤ H 152 32 ∧ H 152 32 ≤ 1000) (e1 : mwv H s = v') (e2 : H 152 33 = wa) (e3 : 0 ≤ s ∧ s ≤ H 152 32) : MwR H W t en (zroom n p v v' wa) s := by
  have e : zroom n p v v' wa = (p, v', wa) := by
    unfold zroom
    rw [if_pos g, if_pos hv]
  rw [e]
  exact ⟨hT, h4, fun _ => ⟨e1, e2, e3⟩⟩
/-- what awaits behind a part -/
def W434 (d n1 : Nat) (W : Nat → Nat) (a1 a3 : Int) (Q : Option (Option AV) → Mem → Prop) (D : DD) (t : Int → Int) (en : Int) (z : Ws) : Prop := ∀ (G : DD) (s x : Int), Fr mwF D G → MwR G W t en z s → Wp (d + 4) 0 0 mX10_walk 434 [some (vr 152), some (vi a1), some (vi s), some (vi a3), some (vi x), none, none, none, none, none] [] (G, rho n1 W) Q
theorem m_jerk {Q : Option (Option AV) → Mem → Prop} {a1 a2 a3 a4 x3 x4 : Int} {G : DD} (hb : 0 ≤ D 152 32 ∧ D 152 32 ≤ 1000) (hg : p.2 = -1) (hx3 : x3 = if zskip t en 45 p = true then 1 else 0) (hv : mwv D a2 = v ∧ D 152 33 = wa ∧ 0 ≤ a2 ∧ a2 ≤ D 152 32) (f : Fr mxF D G) (T : MxR G W t en (if (znumP t en 0 200 (zskipP t en 45 p)).2 = -1 ∧ ¬ D 152 32 + 1 ≤ 1000 then ((znumP t en 0 200 (zskipP t en 45 p)).1, (znumP t en 0 200 (zskipP t en 45 p)).1 - 1) else znumP t en 0 200 (zskipP t en 45 p)))
    (hx4 : (znumP t en 0 200 (zskipP t en 45 p)).2 = -1 → x4 = znumV t en 0 200 (zskipP t en 45 p) ∧ 1 ≤ (znumP t en 0 200 (zskipP t en 45 p)).1) (k : W434 d n1 W a1 a3 Q D t en (zwj t en p v wa)) :
    Wp (d + 4) 0 0 mX10_walk 374 [some (vr 152), some (vi a1), some (vi a2), some (vi a3), some (vi a4), some (vi x3), some (vi x4), none, none, none] [] (G, rho n1 W) Q := by
  obtain ⟨c1, c2, c3⟩ := mxw (s := a2) f
  refine sg_X10_walk_374 ⟨rfl, cB (C_mfine T) (fun hf => yE ?_) (fun hf => nE (k G a2 a4 (mwF_x f) ?_))⟩
  · by_cases hr : (znumP t en 0 200 (zskipP t en 45 p)).2 = -1 ∧ D 152 32 + 1 ≤ 1000
    · rw [if_neg (fun z => z.2 hr.2)] at T
      have last : ∀ al : Int, al = (if zskip t en 45 p = true then w32 (-znumV t en 0 200 (zskipP t en 45 p)) else znumV t en 0 200 (zskipP t en 45 p)) → ∀ m, (∃ D', m = (D', rho n1 W) ∧ Fr myF G D' ∧ mwv D' a2 = wPut (mwv G a2) al 0 (G 152 33) (-1) ∧ D' 152 33 = G 152 33 ∧ D' 152 32 = G 152 32 + 1) → Wp (d + 4) 0 0 mX10_walk 434 [some (vr 152), some (vi a1), some (vi a2), some (vi a3), some (vi a4), none, none, none, none, none] [] m Q := by
        rintro al eal m ⟨H, rfl, k1, k2, k3, k4⟩
        have kt : wTicks v = D 152 32 := by rw [← hv.1]; rfl
        refine k H a2 a4 ((mwF_x f).trans (mwF_y k1)) (mroom_yes hr.1 (by omega) (myt k1 T) (by omega) ?_ (by omega) (by omega))
        rw [k2, c1, hv.1, eal, c2, hv.2.1]
      refine ⟨fun c => ⟨rfl, cV (C_lay (D := G) (s := a2) (by omega) (by omega)) (last x4 ?_)⟩, fun c => ⟨rfl, cV (C_lay (D := G) (s := a2) (by omega) (by omega)) (last (w32 (-x4)) ?_)⟩⟩
      · by_cases z : zskip t en 45 p = true
        · rw [if_pos z] at hx3
          omega
        · rw [if_neg z]
          exact (hx4 hr.1).1
      · by_cases z : zskip t en 45 p = true
        · rw [if_pos z, (hx4 hr.1).1]
        · rw [if_neg z] at hx3
          exact absurd hx3 c
    · have := (mroom_no (v' := v) hb f (fun _ => hv) T hr (fun z => (hx4 z).2)).2
      exfalso
      by_cases g : (znumP t en 0 200 (zskipP t en 45 p)).2 = -1
      · rw [if_pos ⟨g, fun z => hr ⟨g, z⟩⟩] at hf
        have hf : (znumP t en 0 200 (zskipP t en 45 p)).1 - 1 = -1 := hf
        have := (hx4 g).2
        omega
      · rw [if_neg (fun z => g z.1)] at hf
        exact g hf
  · have hr : ¬ ((znumP t en 0 200 (zskipP t en 45 p)).2 = -1 ∧ D 152 32 + 1 ≤ 1000) := fun z => hf (by rw [if_neg (fun y => y.2 z.2)]; exact z.1)
    exact (mroom_no hb f (fun _ => hv) T hr (fun z => (hx4 z).2)).1
theorem m_stand {Q : Option (Option AV) → Mem → Prop} {a1 a2 a3 a4 x5 : Int} {G : DD} (hb : 0 ≤ D 152 32 ∧ D 152 32 ≤ 1000) (hg : p.2 = -1) (hv : mwv D a2 = v ∧ D 152 33 = wa ∧ 0 ≤ a2 ∧ a2 ≤ D 152 32) (f : Fr mxF D G) (T : MxR G W t en (if (znumP t en 1 99 p).2 = -1 ∧ ¬ D 152 32 + x5 ≤ 1000 then ((znumP t en 1 99 p).1, (znumP t en 1 99 p).1 - 1) else znumP t en 1 99 p))
    (hb5 : 0 ≤ x5 ∧ x5 ≤ 999) (hx5 : (znumP t en 1 99 p).2 = -1 → x5 = znumV t en 1 99 p ∧ 1 ≤ (znumP t en 1 99 p).1) (k : W434 d n1 W a1 a3 Q D t en (zws t en p v wa)) :
    Wp (d + 4) 0 0 mX10_walk 297 [some (vr 152), some (vi a1), some (vi a2), some (vi a3), some (vi a4), some (vi x5), some (vi 0), none, none, none] [] (G, rho n1 W) Q := by
  obtain ⟨c1, c2, c3⟩ := mxw (s := a2) f
  by_cases hr : (znumP t en 1 99 p).2 = -1 ∧ D 152 32 + x5 ≤ 1000
  · rw [if_neg (fun z => z.2 hr.2)] at T
    have kt : wTicks v = D 152 32 := by rw [← hv.1]; rfl
    refine Wp.loop (σ := Int) (fun i => [some (vr 152), some (vi a1), some (vi a2), some (vi a3), some (vi a4), some (vi x5), some (vi i), none, none, none])
      (fun i μ => ∃ H : DD, μ = (H, rho n1 W) ∧ Fr myF G H ∧ 0 ≤ i ∧ i ≤ x5 ∧ mwv H a2 = wExt v i wa (fun _ => 0) (fun _ => 0) (fun _ => -1) ∧ H 152 33 = wa)
      (fun i => (x5 - i).toNat) ?_ 0 _ ⟨G, rfl, Fr.refl, by decide, hb5.1, by rw [wExt_0, c1]; exact hv.1, by rw [c2]; exact hv.2.1⟩
    rintro i μ ⟨H, rfl, hH, i0, i1, hh, h6⟩ ih
    have k4 : H 152 32 = wTicks v + i := congrArg (fun q : Wv => q.1) hh
    have T' := myt hH T
    refine sg_X10_walk_297 ⟨fun c => ?_, fun c => ⟨rfl, cP (C_mfine T') ?_⟩⟩
    · have ei : i = znumV t en 1 99 p := by rw [← (hx5 hr.1).1]; omega
      exact k H a2 a4 ((mwF_x f).trans (mwF_y hH)) (mroom_yes hr.1 (by rw [← ei]; omega) T' (by omega) (by rw [hh, ei]) h6 (by omega))
    · rw [bi_1 hr.1]
      refine yE ⟨rfl, cV (C_lay (D := H) (s := a2) (by omega) (by omega)) ?_⟩
      rintro m ⟨H2, rfl, k1, k2, k3, k44⟩ z rfl
      rw [w32_id (by omega) (by omega)]
      refine ih (i + 1) _ ⟨H2, rfl, hH.trans k1, by omega, by omega, ?_, by rw [k3, h6]⟩ (by omega)
      rw [k2, hh, h6]
      exact wExt_s (al := fun _ => 0) (ac := fun _ => 0) (st := fun _ => -1) i0
  · have N := fun v' => mroom_no (v' := v') hb f (fun _ => hv) T hr (fun z => (hx5 z).2)
    have nf : ¬ (if (znumP t en 1 99 p).2 = -1 ∧ ¬ D 152 32 + x5 ≤ 1000 then ((znumP t en 1 99 p).1, (znumP t en 1 99 p).1 - 1) else znumP t en 1 99 p).2 = -1 := by
      by_cases g : (znumP t en 1 99 p).2 = -1
      · rw [if_pos ⟨g, fun z => hr ⟨g, z⟩⟩]
        have := (hx5 g).2
        show ¬ (znumP t en 1 99 p).1 - 1 = -1
        omega
      · rw [if_neg (fun z => g z.1)]
        exact g
    have N2 : MwR G W t en (zws t en p v wa) a2 := by
      have hN := (N (wExt v (znumV t en 1 99 p) wa (fun _ => 0) (fun _ => 0) (fun _ => -1))).1
      by_cases z : (znumP t en 1 99 p).2 = -1
      · rw [(hx5 z).1] at hN
        exact hN
      · unfold zws
        unfold zroom at hN ⊢
        rw [if_neg z] at hN ⊢
        exact hN
    refine sg_X10_walk_297 ⟨fun c => k G a2 a4 (mwF_x f) N2, fun c => ⟨rfl, cP (C_mfine T) ?_⟩⟩
    rw [bi_0 nf]
    exact nE (k G a2 a4 (mwF_x f) N2)
end MWK
