/-! ===== a WALK, read from the TEXT ===== -/
/-- where it is read; the walk so far; the wander from here on -/
abbrev Ws : Type := Ps × Wv × Int
def zroom (n : Int) (p : Ps) (v v' : Wv) (wa : Int) : Ws := if p.2 = -1 then (if wTicks v + n ≤ 1000 then (p, v', wa) else ((p.1, p.1 - 1), v, wa)) else (p, v, wa)
def gpA (t : Int → Int) (en : Int) (p : Ps) : Ps := zneed t en 44 (znumP t en 0 200 p)
def gpB (t : Int → Int) (en : Int) (p : Ps) : Ps := zneed t en 44 (znumP t en 2 40 (gpA t en p))
def gpC (t : Int → Int) (en : Int) (p : Ps) : Ps := zneed t en 42 (znumP t en 0 200 (gpB t en p))
def zwg (t : Int → Int) (en : Int) (p : Ps) (v : Wv) (wa : Int) : Ws :=
  zroom (znumV t en 2 40 (gpA t en p) * znumV t en 1 50 (gpC t en p)) (znumP t en 1 50 (gpC t en p)) v
    (wSteps' v wa (znumV t en 0 200 p) (znumV t en 2 40 (gpA t en p)) (znumV t en 0 200 (gpB t en p)) (znumV t en 1 50 (gpC t en p))) wa
def zws (t : Int → Int) (en : Int) (p : Ps) (v : Wv) (wa : Int) : Ws := zroom (znumV t en 1 99 p) (znumP t en 1 99 p) v (wExt v (znumV t en 1 99 p) wa (fun _ => 0) (fun _ => 0) (fun _ => -1)) wa
def zwj (t : Int → Int) (en : Int) (p : Ps) (v : Wv) (wa : Int) : Ws :=
  zroom 1 (znumP t en 0 200 (zskipP t en 45 p)) v (wPut v (if zskip t en 45 p = true then w32 (-znumV t en 0 200 (zskipP t en 45 p)) else znumV t en 0 200 (zskipP t en 45 p)) 0 wa (-1)) wa
def zpart (t : Int → Int) (en : Int) (x : Ws) : Ws :=
  if pk t en x.1.1 = 103 then zwg t en (x.1.1 + 1, -1) x.2.1 x.2.2
  else if pk t en x.1.1 = 115 then zws t en (x.1.1 + 1, -1) x.2.1 x.2.2
  else if pk t en x.1.1 = 106 then zwj t en (x.1.1 + 1, -1) x.2.1 x.2.2
  else if pk t en x.1.1 = 119 then (znumP t en 0 50 (x.1.1 + 1, -1), x.2.1, znumV t en 0 50 (x.1.1 + 1, -1))
  else ((x.1.1, x.1.1), x.2.1, x.2.2)
/-- more parts, at most n of them -/
def zparts (t : Int → Int) (en : Int) : Nat → Ws → Ws
  | 0, x => x
  | n + 1, x => if zskip t en 59 x.1 = true then zparts t en n (zpart t en ((x.1.1 + 1, -1), x.2.1, x.2.2)) else x
def zwalk (t : Int → Int) (en : Int) : Ws := if 0 < en then zparts t en 60 (zpart t en ((0, -1), w0, 0)) else ((0, -1), w0, 0)
theorem znumV_rng {t : Int → Int} {en lo hi : Int} {p : Ps} (h : (znumP t en lo hi p).2 = -1) (h1 : 0 ≤ p.1 ∧ p.1 ≤ en) : lo ≤ znumV t en lo hi p ∧ znumV t en lo hi p ≤ hi := by
  have r3 := zdg_rng (t := t) (en := en) (n := 3) (v := 0) (a := p.1) (by decide) (by decide) h1.1 h1.2
  unfold znumP at h
  unfold znumV
  by_cases g : p.2 = -1
  · rw [if_pos g] at h
    by_cases e : (zdg t en 3 0 p.1).2 = p.1
    · rw [if_pos e] at h
      have h : p.1 = -1 := h
      omega
    · rw [if_neg e] at h
      by_cases b : lo ≤ (zdg t en 3 0 p.1).1 ∧ (zdg t en 3 0 p.1).1 ≤ hi
      · rw [if_pos ⟨g, e, b⟩]
        exact b
      · rw [if_neg b] at h
        have h : (zdg t en 3 0 p.1).2 - 1 = -1 := h
        omega
  · rw [if_neg g] at h
    exact absurd h g
theorem zneed_g {t : Int → Int} {en c : Int} {p : Ps} (h0 : (zneed t en c p).2 = -1) : p.2 = -1 := by
  unfold zneed at h0
  by_cases g : p.2 = -1
  · exact g
  · rw [if_neg g] at h0
    exact h0
theorem TxR.fr {D D' : DD} {t : Int → Int} {en : Int} {p : Ps} {F : Nat → Int → Prop} (h : TxR D t en p) (f : Fr F D D') (n : ∀ q j, 17 ≤ q → q ≤ 18 → ¬ F q j) : TxR D' t en p := by
  obtain ⟨h1, h2, h3, h4, h5, h6, h7⟩ := h
  have e := fun j => f 17 j (n 17 j (by decide) (by decide))
  exact ⟨by rw [e]; exact h1, by rw [e]; exact h2, by rw [e]; exact h3, fun z => by rw [e]; exact h4 z, h5, fun k a b => by rw [f 18 k (n 18 k (by decide) (by decide))]; exact h6 k a b, h7⟩
theorem TxR.at {D : DD} {t : Int → Int} {en : Int} {p : Ps} (h : TxR D t en p) (g : p.2 = -1) : 0 ≤ p.1 ∧ p.1 ≤ en := by
  have := h.2.2.1
  rw [h.2.2.2.1 g] at this
  exact this
def WkR (D : DD) (w : Nat) (t : Int → Int) (en : Int) (x : Ws) : Prop := TxR D t en x.1 ∧ (0 ≤ D w 4 ∧ D w 4 ≤ 1000) ∧ (x.1.2 = -1 → wkv D w = x.2.1 ∧ D w 6 = x.2.2 ∧ 0 ≤ D w 5 ∧ D w 5 ≤ D w 4)
def tWF (w : Nat) (q : Nat) (j : Int) : Prop := tF q j ∨ wF w q j
section WRD
variable {d n1 w : Nat} {W : Nat → Nat} {D : DD} {t : Int → Int} {en : Int} {p : Ps} {v : Wv} {wa : Int}
theorem tw {D' : DD} (hw : walkId w) (f : Fr tF D D') : wkv D' w = wkv D w ∧ D' w 6 = D w 6 ∧ D' w 4 = D w 4 ∧ D' w 5 = D w 5 :=
  ⟨wkv_fr f (fun q j a b => by unfold tF; unfold walkId at hw; omega), f w 6 (by unfold tF; unfold walkId at hw; omega), f w 4 (by unfold tF; unfold walkId at hw; omega), f w 5 (by unfold tF; unfold walkId at hw; omega)⟩
theorem wt {D' : DD} (hw : walkId w) (f : Fr (wF w) D D') (h : TxR D t en p) : TxR D' t en p := h.fr f (fun q j a b => by unfold wF; unfold walkId at hw; omega)
theorem rF_t {D' : DD} (f : Fr tF D D') : Fr (tWF w) D D' := f.mono (fun _ _ h => Or.inl h)
theorem rF_w {D' : DD} (f : Fr (wF w) D D') : Fr (tWF w) D D' := f.mono (fun _ _ h => Or.inr h)
theorem C_room {n : Int} (h : TxR D t en p) (hp : p.2 = -1 → 1 ≤ D 17 2) (hw : walkId w) (t0 : 0 ≤ D w 4) (t1 : D w 4 ≤ 1000) (n0 : 0 ≤ n) (n9 : n ≤ 1000000) :
    Cl (d + 2) 0 0 mX8_hasRoom [vr w, vr 17, vi n] (D, rho n1 W) (KI (fun x m => ∃ D', m = (D', rho n1 W) ∧ Fr tF D D' ∧ TxR D' t en (if p.2 = -1 ∧ ¬ D w 4 + n ≤ 1000 then (p.1, p.1 - 1) else p) ∧ x = bi (p.2 = -1 ∧ D w 4 + n ≤ 1000))) := by
  have sw := sWk_of (n1 := n1) (W := W) hw
  have ew : w32 (D w 4 + n) = D w 4 + n := w32_id (by omega) (by omega)
  refine Cl_of mb_X8_hasRoom (Nat.le_of_ble_eq_true rfl) (sg_X8_hasRoom_0 ⟨rfl, cB (C_isGood h) (fun hg => yE ⟨sw.1, fun c => sg_X8_hasRoom_23 ⟨rfl, cP (C_isGood h) ⟨bi_or, _, rfl, D, rfl, Fr.refl, ?_, ?_⟩⟩, fun c => ⟨rfl, cV (C_failAtLastDigit h (hp hg)) ?_⟩⟩) (fun hg => nE (sg_X8_hasRoom_23 ⟨rfl, cP (C_isGood h) ⟨bi_or, _, rfl, D, rfl, Fr.refl, ?_, ?_⟩⟩))⟩)
  · change w32 (D w 4 + n) ≤ 1000 at c
    rw [ew] at c
    rw [if_neg (fun z => z.2 c)]
    exact h
  · change w32 (D w 4 + n) ≤ 1000 at c
    rw [ew] at c
    rw [bi_1 hg, bi_1 ⟨hg, c⟩]
  · change ¬ w32 (D w 4 + n) ≤ 1000 at c
    rw [ew] at c
    rintro m ⟨G, rfl, g1, g2⟩
    rw [if_pos hg] at g2
    refine sg_X8_hasRoom_23 ⟨rfl, cP (C_isGood g2) ⟨bi_or, _, rfl, G, rfl, g1, ?_, ?_⟩⟩
    · rw [if_pos ⟨hg, c⟩]
      exact g2
    · rw [bi_0 (p := p.2 = -1 ∧ D w 4 + n ≤ 1000) (fun z => c z.2)]
      refine bi_0 ?_
      show ¬ p.1 - 1 = -1
      have := hp hg
      rw [h.2.2.2.1 hg] at this
      omega
  · rw [if_neg (fun z => hg z.1)]
    exact h
  · rw [bi_0 hg, bi_0 (fun z => hg z.1)]
/-- the end of a part -/
theorem room_no {D G : DD} {n : Int} {v' : Wv} (hw : walkId w) (hb : 0 ≤ D w 4 ∧ D w 4 ≤ 1000) (f : Fr tF D G) (hv : p.2 = -1 → wkv D w = v ∧ D w 6 = wa ∧ 0 ≤ D w 5 ∧ D w 5 ≤ D w 4) (hT : TxR G t en (if p.2 = -1 ∧ ¬ D w 4 + n ≤ 1000 then (p.1, p.1 - 1) else p)) (no : ¬ (p.2 = -1 ∧ D w 4 + n ≤ 1000)) (hp : p.2 = -1 → 1 ≤ p.1) : WkR G w t en (zroom n p v v' wa) := by
  obtain ⟨a1, a2, a3, a4⟩ := tw hw f
  by_cases g : p.2 = -1
  · have no2 : ¬ D w 4 + n ≤ 1000 := fun z => no ⟨g, z⟩
    have e : zroom n p v v' wa = ((p.1, p.1 - 1), v, wa) := by
      unfold zroom
      rw [if_pos g, if_neg]
      rw [← (hv g).1]
      exact no2
    rw [if_pos ⟨g, no2⟩] at hT
    rw [e]
    refine ⟨hT, by rw [a3]; exact hb, fun z => ?_⟩
    have z : p.1 - 1 = -1 := z
    have := hp g
    omega
  · rw [if_neg (fun z => g z.1)] at hT
    have e : zroom n p v v' wa = (p, v, wa) := if_neg g
    rw [e]
    exact ⟨hT, by rw [a3]; exact hb, fun z => absurd z g⟩
theorem room_yes {G H : DD} {n : Int} {v' : Wv} (g : p.2 = -1) (hv : wTicks v + n ≤ 1000) (hT : TxR H t en p) (h4 : 0 ≤ H w 4 ∧ H w 4 ≤ 1000) (e1 : wkv H w = v') (e2 : H w 6 = wa) (e3 : 0 ≤ H w 5 ∧ H w 5 ≤ H w 4) : WkR H w t en (zroom n p v v' wa) := by
  have e : zroom n p v v' wa = (p, v', wa) := by
    unfold zroom
    rw [if_pos g, if_pos hv]
  rw [e]
  exact ⟨hT, h4, fun _ => ⟨e1, e2, e3⟩⟩
theorem C_readJerk (hw : walkId w) (hg : p.2 = -1) (h : WkR D w t en (p, v, wa)) : Cl (d + 4) 0 0 mX8_readJerk [vr w, vr 17] (D, rho n1 W) (KV (fun m => ∃ D', m = (D', rho n1 W) ∧ Fr (tWF w) D D' ∧ WkR D' w t en (zwj t en p v wa))) := by
  have sw := sWk_of (n1 := n1) (W := W) hw
  obtain ⟨hT, hb, hv⟩ := h
  obtain ⟨v1, v2, v3, v4⟩ := hv hg
  have v1 : wkv D w = v := v1
  have v2 : D w 6 = wa := v2
  have hT : TxR D t en p := hT
  refine Cl_of mb_X8_readJerk (Nat.le_of_ble_eq_true rfl) (sg_X8_readJerk_0 ⟨rfl, cI (C_skip (by decide) hT) ?_⟩)
  rintro x1 m ⟨G1, rfl, f1, T1, q1, -⟩
  refine ⟨rfl, cI (C_number T1) ?_⟩
  rintro x2 m ⟨G2, rfl, f2, T2, q2, b2⟩
  have f12 := f1.trans f2
  obtain ⟨a1, a2, a3, a4⟩ := tw hw f12
  refine ⟨sw.1, cI (C_room (w := w) T2 (fun z => (q2 z).2.2) hw (by rw [a3]; exact hb.1) (by rw [a3]; exact hb.2) (by decide) (by decide)) ?_⟩
  rintro x3 m ⟨G3, rfl, f3, T3, e3⟩
  subst e3
  by_cases hr : (znumP t en 0 200 (zskipP t en 45 p)).2 = -1 ∧ G2 w 4 + 1 ≤ 1000
  · rw [bi_1 hr]
    rw [if_neg (fun z => z.2 hr.2)] at T3
    obtain ⟨c1, c2, c3, c4⟩ := tw hw (f12.trans f3)
    obtain ⟨ex, -, -⟩ := q2 hr.1
    have ht1 : D w 4 + 1 ≤ 1000 := by rw [← a3]; exact hr.2
    have last : ∀ (al : Int), al = (if zskip t en 45 p = true then w32 (-znumV t en 0 200 (zskipP t en 45 p)) else znumV t en 0 200 (zskipP t en 45 p)) → ∀ m, (∃ D', m = (D', rho n1 W) ∧ Fr (wF w) G3 D' ∧ wkv D' w = wPut (wkv G3 w) al 0 (G3 w 6) (-1) ∧ D' w 6 = G3 w 6 ∧ D' w 4 = G3 w 4 + 1) → ∃ D', m = (D', rho n1 W) ∧ Fr (tWF w) D D' ∧ WkR D' w t en (zwj t en p v wa) := by
      rintro al eal m ⟨H, rfl, k1, k2, k3, k4⟩
      have k5 : H w 5 = G3 w 5 := congrArg (fun q : Wv => q.2.1) k2
      refine ⟨H, rfl, (rF_t (f12.trans f3)).trans (rF_w k1), room_yes (G := G3) hr.1 ?_ (wt hw k1 T3) (by omega) ?_ (by omega) (by omega)⟩
      · rw [← v1]
        exact ht1
      · rw [k2, c1, v1, eal, c2, v2]
    refine yE ⟨fun c => ⟨sw.1, cV (C_addTick (D := G3) sw (by omega) (by omega)) (fun m hm => ⟨rfl, last _ ?_ m hm⟩)⟩, fun c => ⟨sw.1, cV (C_addTick (D := G3) sw (by omega) (by omega)) (fun m hm => ⟨rfl, last _ ?_ m hm⟩)⟩⟩
    · have q1 := q1 hg
      by_cases z : zskip t en 45 p = true
      · rw [if_pos z] at q1
        omega
      · rw [if_neg z, ex]
    · have q1 := q1 hg
      by_cases z : zskip t en 45 p = true
      · rw [if_pos z, ex]
      · rw [if_neg z] at q1
        exact absurd q1 c
  · rw [bi_0 hr]
    refine nE ⟨rfl, G3, rfl, rF_t (f12.trans f3), room_no (D := G2) hw (by rw [a3]; exact hb) f3 (fun _ => by rw [a1, a2, a4, a3]; exact ⟨v1, v2, v3, v4⟩) T3 hr (fun z => ?_)⟩
    have := (q2 z).2.2
    rw [T2.2.2.2.1 z] at this
    exact this
theorem C_readStand (hw : walkId w) (hg : p.2 = -1) (h : WkR D w t en (p, v, wa)) : Cl (d + 4) 0 0 mX8_readStand [vr w, vr 17] (D, rho n1 W) (KV (fun m => ∃ D', m = (D', rho n1 W) ∧ Fr (tWF w) D D' ∧ WkR D' w t en (zws t en p v wa))) := by
  have sw := sWk_of (n1 := n1) (W := W) hw
  obtain ⟨hT, hb, hv⟩ := h
  obtain ⟨v1, v2, v3, v4⟩ := hv hg
  have v1 : wkv D w = v := v1
  have v2 : D w 6 = wa := v2
  have hT : TxR D t en p := hT
  refine Cl_of mb_X8_readStand (Nat.le_of_ble_eq_true rfl) (sg_X8_readStand_0 ⟨rfl, cI (C_number hT) ?_⟩)
  rintro x2 m ⟨G2, rfl, f2, T2, q2, b2⟩
  obtain ⟨a1, a2, a3, a4⟩ := tw hw f2
  refine ⟨sw.1, cI (C_room (w := w) T2 (fun z => (q2 z).2.2) hw (by rw [a3]; exact hb.1) (by rw [a3]; exact hb.2) b2.1 (by omega)) ?_⟩
  rintro x3 m ⟨G3, rfl, f3, T3, e3⟩
  subst e3
  have hpos : (znumP t en 1 99 p).2 = -1 → 1 ≤ (znumP t en 1 99 p).1 := fun z => by
    have := (q2 z).2.2
    rw [T2.2.2.2.1 z] at this
    exact this
  by_cases hr : (znumP t en 1 99 p).2 = -1 ∧ G2 w 4 + x2 ≤ 1000
  · rw [bi_1 hr]
    rw [if_neg (fun z => z.2 hr.2)] at T3
    obtain ⟨c1, c2, c3, c4⟩ := tw hw (f2.trans f3)
    obtain ⟨ex, -, -⟩ := q2 hr.1
    have hrg := znumV_rng hr.1 (hT.at hg)
    rw [← ex] at hrg
    have ht1 : D w 4 + x2 ≤ 1000 := by rw [← a3]; exact hr.2
    refine yE ?_
    refine Wp.loop (σ := Int) (fun i => [some (vr w), some (vr 17), some (vi x2), some (vi i)])
      (fun i μ => ∃ H : DD, μ = (H, rho n1 W) ∧ Fr (wF w) G3 H ∧ 0 ≤ i ∧ i ≤ x2 ∧ wkv H w = wExt v i wa (fun _ => 0) (fun _ => 0) (fun _ => -1) ∧ H w 6 = wa)
      (fun i => (x2 - i).toNat) ?_ 0 _ ⟨G3, rfl, Fr.refl, by decide, by omega, by rw [wExt_0, c1]; exact v1, by rw [c2]; exact v2⟩
    rintro i μ ⟨H, rfl, hH, i0, i1, hh, h6⟩ ih
    have k4 : H w 4 = wTicks v + i := congrArg (fun q : Wv => q.1) hh
    have k5 : H w 5 = wSteps v := congrArg (fun q : Wv => q.2.1) hh
    have kt : wTicks v = D w 4 := by rw [← v1]; rfl
    have ks : wSteps v = D w 5 := by rw [← v1]; rfl
    refine sg_X8_readStand_19 ⟨fun c => ⟨rfl, H, rfl, (rF_t (f2.trans f3)).trans (rF_w hH), ?_⟩, fun c => ⟨sw.1, cV (C_addTick (D := H) sw (by omega) (by omega)) ?_⟩⟩
    · have ei : i = znumV t en 1 99 p := by omega
      refine room_yes (G := G3) hr.1 (by rw [← ei]; omega) (wt hw hH T3) (by omega) (by rw [hh, ei]) h6 (by omega)
    · rintro m ⟨H2, rfl, k1, k2, k3, k44⟩ z rfl
      rw [w32_id (by omega) (by omega)]
      refine ih (i + 1) _ ⟨H2, rfl, hH.trans k1, by omega, by omega, ?_, by rw [k3, h6]⟩ (by omega)
      rw [k2, hh, h6]
      exact wExt_s (al := fun _ => 0) (ac := fun _ => 0) (st := fun _ => -1) i0
  · rw [bi_0 hr]
    have hN : WkR G3 w t en (zroom x2 (znumP t en 1 99 p) v (wExt v (znumV t en 1 99 p) wa (fun _ => 0) (fun _ => 0) (fun _ => -1)) wa) := room_no (D := G2) hw (by rw [a3]; exact hb) f3 (fun _ => by rw [a1, a2, a4, a3]; exact ⟨v1, v2, v3, v4⟩) T3 hr hpos
    refine nE ⟨rfl, G3, rfl, rF_t (f2.trans f3), ?_⟩
    by_cases z : (znumP t en 1 99 p).2 = -1
    · rw [(q2 z).1] at hN
      exact hN
    · unfold zws
      unfold zroom at hN ⊢
      rw [if_neg z] at hN ⊢
      exact hN
end WRD
