/-! ===== a WALK, read: STEPS, parts, the whole ===== -/
section WRD2
variable {d n1 w : Nat} {W : Nat → Nat} {D : DD} {t : Int → Int} {en : Int} {p : Ps} {v : Wv} {wa : Int}
theorem C_readSteps (hw : walkId w) (hg : p.2 = -1) (h : WkR D w t en (p, v, wa)) : Cl (d + 4) 0 0 mX8_readSteps [vr w, vr 17] (D, rho n1 W) (KV (fun m => ∃ D', m = (D', rho n1 W) ∧ Fr (tWF w) D D' ∧ WkR D' w t en (zwg t en p v wa))) := by
  have sw := sWk_of (n1 := n1) (W := W) hw
  obtain ⟨hT, hb, hv⟩ := h
  obtain ⟨v1, v2, v3, v4⟩ := hv hg
  have v1 : wkv D w = v := v1
  have v2 : D w 6 = wa := v2
  have hT : TxR D t en p := hT
  refine Cl_of mb_X8_readSteps (Nat.le_of_ble_eq_true rfl) (sg_X8_readSteps_0 ⟨rfl, cI (C_number hT) ?_⟩)
  rintro x1 m ⟨G1, rfl, f1, T1, q1, b1⟩
  refine ⟨rfl, cV (C_need (by decide) T1) ?_⟩
  rintro m ⟨G2, rfl, f2, T2⟩
  have T2 : TxR G2 t en (gpA t en p) := T2
  refine ⟨rfl, cI (C_number T2) ?_⟩
  rintro x2 m ⟨G3, rfl, f3, T3, q3, b3⟩
  refine ⟨rfl, cV (C_need (by decide) T3) ?_⟩
  rintro m ⟨G4, rfl, f4, T4⟩
  have T4 : TxR G4 t en (gpB t en p) := T4
  refine ⟨rfl, cI (C_number T4) ?_⟩
  rintro x3 m ⟨G5, rfl, f5, T5, q5, b5⟩
  refine ⟨rfl, cV (C_need (by decide) T5) ?_⟩
  rintro m ⟨G6, rfl, f6, T6⟩
  have T6 : TxR G6 t en (gpC t en p) := T6
  refine ⟨rfl, cI (C_number T6) ?_⟩
  rintro x4 m ⟨G7, rfl, f7, T7, q7, b7⟩
  have f17 := (((((f1.trans f2).trans f3).trans f4).trans f5).trans f6).trans f7
  obtain ⟨a1, a2, a3, a4⟩ := tw hw f17
  have hm0 : 0 ≤ x2 * x4 := Int.mul_nonneg b3.1 b7.1
  have hm1 : x2 * x4 ≤ 999 * 999 := Int.le_trans (Int.mul_le_mul_of_nonneg_right b3.2 b7.1) (Int.mul_le_mul_of_nonneg_left b7.2 (by decide))
  have em : w32 (x2 * x4) = x2 * x4 := w32_id (by omega) (by omega)
  rw [em]
  refine ⟨sw.1, cI (C_room (w := w) T7 (fun z => (q7 z).2.2) hw (by rw [a3]; exact hb.1) (by rw [a3]; exact hb.2) hm0 (by omega)) ?_⟩
  rintro x5 m ⟨G8, rfl, f8, T8, e8⟩
  subst e8
  have hpos : (znumP t en 1 50 (gpC t en p)).2 = -1 → 1 ≤ (znumP t en 1 50 (gpC t en p)).1 := fun z => by
    have := (q7 z).2.2
    rw [T7.2.2.2.1 z] at this
    exact this
  have good : (znumP t en 1 50 (gpC t en p)).2 = -1 → (x1 = znumV t en 0 200 p ∧ x2 = znumV t en 2 40 (gpA t en p) ∧ x3 = znumV t en 0 200 (gpB t en p) ∧ x4 = znumV t en 1 50 (gpC t en p)) ∧ (2 ≤ x2 ∧ x2 ≤ 40) ∧ (1 ≤ x4 ∧ x4 ≤ 50) := fun z => by
    obtain ⟨y4, z4, -⟩ := q7 z
    have z5 := zneed_g z4
    obtain ⟨y3, z6, -⟩ := q5 z5
    have z7 := zneed_g z6
    obtain ⟨y2, z8, -⟩ := q3 z7
    have z9 := zneed_g z8
    obtain ⟨y1, -, -⟩ := q1 z9
    have r2 := znumV_rng z7 (T2.at z8)
    have r4 := znumV_rng z (T6.at z4)
    rw [← y2] at r2
    rw [← y4] at r4
    exact ⟨⟨y1, y2, y3, y4⟩, r2, r4⟩
  by_cases hr : (znumP t en 1 50 (gpC t en p)).2 = -1 ∧ G7 w 4 + x2 * x4 ≤ 1000
  · rw [bi_1 hr]
    rw [if_neg (fun z => z.2 hr.2)] at T8
    obtain ⟨c1, c2, c3, c4⟩ := tw hw (f17.trans f8)
    obtain ⟨⟨y1, y2, y3, y4⟩, r2, r4⟩ := good hr.1
    have ht1 : D w 4 + x2 * x4 ≤ 1000 := by rw [← a3]; exact hr.2
    have hmm : 1 * x4 ≤ x2 * x4 := Int.mul_le_mul_of_nonneg_right (by omega) (by omega)
    refine yE ⟨sw.1, cV (C_addSteps (D := G8) sw (by omega) (by omega) (by omega) (by omega) (by omega) (by omega) (by omega) (by omega)) ?_⟩
    rintro m ⟨H, rfl, k1, k2, k3⟩
    have k4 : H w 4 = G8 w 4 + x2 * x4 := congrArg (fun q : Wv => q.1) k2
    have k5 : H w 5 = G8 w 5 + x4 := congrArg (fun q : Wv => q.2.1) k2
    have kt : wTicks v = D w 4 := by rw [← v1]; rfl
    refine ⟨rfl, H, rfl, (rF_t (f17.trans f8)).trans (rF_w k1), room_yes (G := G8) hr.1 ?_ (wt hw k1 T8) (by omega) ?_ (by omega) (by omega)⟩
    · rw [← y2, ← y4]
      omega
    · rw [k2, c1, v1, c2, v2, ← y1, ← y2, ← y3, ← y4]
  · rw [bi_0 hr]
    have hN : ∀ v', WkR G8 w t en (zroom (x2 * x4) (znumP t en 1 50 (gpC t en p)) v v' wa) := fun v' => room_no (D := G7) hw (by rw [a3]; exact hb) f8 (fun _ => by rw [a1, a2, a4, a3]; exact ⟨v1, v2, v3, v4⟩) T8 hr hpos
    refine nE ⟨rfl, G8, rfl, rF_t (f17.trans f8), ?_⟩
    unfold zwg
    by_cases z : (znumP t en 1 50 (gpC t en p)).2 = -1
    · obtain ⟨⟨y1, y2, y3, y4⟩, -, -⟩ := good z
      rw [← y2, ← y4]
      exact hN _
    · have hN := hN v
      unfold zroom at hN ⊢
      rw [if_neg z] at hN ⊢
      exact hN
theorem C_readPart (hw : walkId w) (hg : p.2 = -1) (h : WkR D w t en (p, v, wa)) : Cl (d + 5) 0 0 mX8_readPart [vr w, vr 17] (D, rho n1 W) (KV (fun m => ∃ D', m = (D', rho n1 W) ∧ Fr (tWF w) D D' ∧ WkR D' w t en (zpart t en (p, v, wa)))) := by
  have sw := sWk_of (n1 := n1) (W := W) hw
  obtain ⟨hT, hb, hv⟩ := h
  obtain ⟨v1, v2, v3, v4⟩ := hv hg
  have v1 : wkv D w = v := v1
  have v2 : D w 6 = wa := v2
  have hT : TxR D t en p := hT
  -- a letter passed
  have yes : ∀ {c : Int} {G : DD}, pk t en p.1 = c → Fr tF D G → TxR G t en (zskipP t en c p) → WkR G w t en ((p.1 + 1, -1), v, wa) := by
    intro c G hc f T
    obtain ⟨a1, a2, a3, a4⟩ := tw hw f
    have hz : zskip t en c p = true := by
      unfold zskip
      rw [decide_eq_true hg, decide_eq_true hc]
      rfl
    unfold zskipP at T
    rw [if_pos hz, hg] at T
    exact ⟨T, by rw [a3]; exact hb, fun _ => by rw [a1, a2, a4, a3]; exact ⟨v1, v2, v3, v4⟩⟩
  have no : ∀ {c : Int} {G : DD}, ¬ pk t en p.1 = c → Fr tF D G → TxR G t en (zskipP t en c p) → TxR G t en p := by
    intro c G hc f T
    have hz : ¬ zskip t en c p = true := by
      unfold zskip
      rw [decide_eq_true hg, decide_eq_false hc]
      exact fun z => by cases z
    unfold zskipP at T
    rw [if_neg hz] at T
    exact T
  have hx : ∀ {c : Int} {x : Int}, (p.2 = -1 → x = if zskip t en c p = true then 1 else 0) → x = if pk t en p.1 = c then 1 else 0 := by
    intro c x q
    have q := q hg
    unfold zskip at q
    by_cases e : pk t en p.1 = c
    · rw [decide_eq_true hg, decide_eq_true e] at q
      rw [if_pos e]
      exact q
    · rw [decide_eq_true hg, decide_eq_false e] at q
      rw [if_neg e]
      exact q
  refine Cl_of mb_X8_readPart (Nat.le_of_ble_eq_true rfl) (sg_X8_readPart_0 ⟨rfl, cI (C_skip (by decide) hT) ?_⟩)
  rintro x1 m ⟨G1, rfl, f1, T1, q1, -⟩
  have q1 := hx q1
  subst q1
  by_cases e1 : pk t en p.1 = 103
  · rw [if_pos e1]
    refine yE ⟨sw.1, cV (C_readSteps (p := (p.1 + 1, -1)) hw rfl (yes e1 f1 T1)) ?_⟩
    rintro m ⟨H, rfl, k1, k2⟩
    refine ⟨rfl, H, rfl, (rF_t f1).trans k1, ?_⟩
    unfold zpart
    rw [if_pos e1]
    exact k2
  rw [if_neg e1]
  have T1 := no e1 f1 T1
  refine nE ⟨rfl, cI (C_skip (by decide) T1) ?_⟩
  rintro x2 m ⟨G2, rfl, f2, T2, q2, -⟩
  have q2 := hx q2
  have f2 := f1.trans f2
  subst q2
  by_cases e2 : pk t en p.1 = 115
  · rw [if_pos e2]
    refine yE ⟨sw.1, cV (C_readStand (p := (p.1 + 1, -1)) hw rfl (yes e2 f2 T2)) ?_⟩
    rintro m ⟨H, rfl, k1, k2⟩
    refine ⟨rfl, H, rfl, (rF_t f2).trans k1, ?_⟩
    unfold zpart
    rw [if_neg e1, if_pos e2]
    exact k2
  rw [if_neg e2]
  have T2 := no e2 f2 T2
  refine nE ⟨rfl, cI (C_skip (by decide) T2) ?_⟩
  rintro x3 m ⟨G3, rfl, f3, T3, q3, -⟩
  have q3 := hx q3
  have f3 := f2.trans f3
  subst q3
  by_cases e3 : pk t en p.1 = 106
  · rw [if_pos e3]
    refine yE ⟨sw.1, cV (C_readJerk (p := (p.1 + 1, -1)) hw rfl (yes e3 f3 T3)) ?_⟩
    rintro m ⟨H, rfl, k1, k2⟩
    refine ⟨rfl, H, rfl, (rF_t f3).trans k1, ?_⟩
    unfold zpart
    rw [if_neg e1, if_neg e2, if_pos e3]
    exact k2
  rw [if_neg e3]
  have T3 := no e3 f3 T3
  refine nE ⟨rfl, cI (C_skip (by decide) T3) ?_⟩
  rintro x4 m ⟨G4, rfl, f4, T4, q4, -⟩
  have q4 := hx q4
  have f4 := f3.trans f4
  subst q4
  by_cases e4 : pk t en p.1 = 119
  · rw [if_pos e4]
    have R4 := yes e4 f4 T4
    refine yE ⟨rfl, cI (C_number (D := G4) R4.1) ?_⟩
    rintro x5 m ⟨G5, rfl, f5, T5, q5, b5⟩
    have f5' := f4.trans f5
    obtain ⟨a1, a2, a3, a4⟩ := tw hw f5'
    refine ⟨sw.1, fun m7 e7 => ?_⟩
    have e7 : m7 = (wr G5 w 6 x5, rho n1 W) := e7
    subst e7
    have fw : Fr (wF w) G5 (wr G5 w 6 x5) := Fr.refl.wr (by unfold wF; omega)
    have kv : wkv (wr G5 w 6 x5) w = wkv G5 w := by
      unfold wkv
      rw [wr_j (by decide), wr_j (by decide), wr_o (by omega), wr_o (by omega), wr_o (by omega), wr_o (by omega)]
    refine ⟨rfl, _, rfl, (rF_t f5').trans (rF_w fw), ?_⟩
    unfold zpart
    rw [if_neg e1, if_neg e2, if_neg e3, if_pos e4]
    refine ⟨wt hw fw T5, by rw [wr_j (by decide), a3]; exact hb, fun z => ⟨by rw [kv, a1]; exact v1, ?_, by rw [wr_j (by decide), a4]; exact v3, by rw [wr_j (by decide), wr_j (by decide), a4, a3]; exact v4⟩⟩
    rw [wr_at]
    exact (q5 z).1
  rw [if_neg e4]
  have T4 := no e4 f4 T4
  refine nE ⟨rfl, cV (C_failHere T4) ?_⟩
  rintro m ⟨G5, rfl, f5, T5⟩
  have f5 := f4.trans f5
  obtain ⟨a1, a2, a3, a4⟩ := tw hw f5
  rw [if_pos hg] at T5
  refine ⟨rfl, G5, rfl, rF_t f5, ?_⟩
  unfold zpart
  rw [if_neg e1, if_neg e2, if_neg e3, if_neg e4]
  refine ⟨T5, by rw [a3]; exact hb, fun z => ?_⟩
  have z : p.1 = -1 := z
  have := hT.at hg
  omega
/-- a WALK's reading, from an open TEXT on -/
theorem C_wread {most : Int} (hw : walkId w) (h0 : 0 ≤ D 17 1) (h1 : D 17 1 ≤ 80) (ht : ∀ k, 0 ≤ k → k < D 17 1 → D 18 k = t k) (em : most = min (D 17 1) 60) : Cl (d + 6) 0 0 mX8_read [vr w, vr 17] (D, rho n1 W) (KV (fun m => ∃ D', m = (D', rho n1 W) ∧ Fr (fun q j => (q = 17 ∧ (j = 2 ∨ j = 3 ∨ j = 4)) ∨ wF w q j) D D' ∧ WkR D' w t most (zwalk t most))) := by
  have sw := sWk_of (n1 := n1) (W := W) hw
  refine Cl_of mb_X8_read (Nat.le_of_ble_eq_true rfl) (sg_X8_read_0 ⟨sw.1, cV (C_wclear (D := D) sw) ?_⟩)
  rintro m ⟨G1, rfl, f1, k1, k2⟩
  have g17 : ∀ j, G1 17 j = D 17 j := fun j => f1 17 j (by unfold wF; unfold walkId at hw; omega)
  have g18 : ∀ j, G1 18 j = D 18 j := fun j => f1 18 j (by unfold wF; unfold walkId at hw; omega)
  refine ⟨rfl, cI (C_begin (D := G1) (t := t) (by rw [g17]; exact h0) (by rw [g17]; exact h1) (by decide) (by rw [g17]; exact fun k a b => by rw [g18]; exact ht k a b)) ?_⟩
  rintro x m ⟨G2, rfl, f2, T2, e2⟩
  rw [g17, ← em] at T2 e2
  subst e2
  have kv2 : wkv G2 w = w0 := by
    rw [wkv_fr f2 (fun q j a b => by unfold walkId at hw; omega), k1]
    rfl
  have k46 : G2 w 6 = 0 := by rw [f2 w 6 (by unfold walkId at hw; omega)]; exact k2
  have k44 : G2 w 4 = 0 := congrArg (fun q : Wv => q.1) kv2
  have k45 : G2 w 5 = 0 := congrArg (fun q : Wv => q.2.1) kv2
  have R2 : WkR G2 w t most ((0, -1), w0, 0) := ⟨T2, by omega, fun _ => ⟨kv2, k46, by omega, by omega⟩⟩
  have F2 : Fr (fun q j => (q = 17 ∧ (j = 2 ∨ j = 3 ∨ j = 4)) ∨ wF w q j) D G2 := (f1.mono (fun _ _ z => Or.inr z)).trans (f2.mono (fun _ _ z => Or.inl z))
  have mt : ∀ {E H : DD}, Fr (tWF w) E H → Fr (fun q j => (q = 17 ∧ (j = 2 ∨ j = 3 ∨ j = 4)) ∨ wF w q j) E H := fun f => f.mono (fun q j z => by
    rcases z with z | z
    · exact Or.inl ⟨z.1, by have := z.2; omega⟩
    · exact Or.inr z)
  by_cases hp : 0 < most
  rotate_left
  · rw [bi_0 hp]
    refine nN ⟨rfl, G2, rfl, F2, ?_⟩
    unfold zwalk
    rw [if_neg hp]
    exact R2
  rw [bi_1 hp]
  refine yN ⟨sw.1, cV (C_readPart (p := (0, -1)) hw rfl R2) ?_⟩
  rintro m ⟨G3, rfl, f3, R3⟩
  refine Wp.loop (σ := Int) (fun i => [some (vr w), some (vr 17), some (vi i)])
    (fun i μ => ∃ (H : DD) (x : Ws), μ = (H, rho n1 W) ∧ Fr (fun q j => (q = 17 ∧ (j = 2 ∨ j = 3 ∨ j = 4)) ∨ wF w q j) D H ∧ 0 ≤ i ∧ i ≤ 60 ∧ WkR H w t most x ∧ zparts t most (60 - i).toNat x = zwalk t most)
    (fun i => (60 - i).toNat) ?_ 0 _ ⟨G3, _, rfl, F2.trans (mt f3), by decide, by decide, R3, ?_⟩
  rotate_left
  · unfold zwalk
    rw [if_pos hp]
    rfl
  rintro i μ ⟨H, ⟨p, v, wa⟩, rfl, hH, i0, i1, hR, hz⟩ ih
  have hT : TxR H t most p := hR.1
  refine sg_X8_read_21 ⟨fun c => ⟨rfl, H, rfl, hH, ?_⟩, fun c => ⟨rfl, cB (C_isGood hT) (fun hg => yE ⟨rfl, cI (C_skip (by decide) hT) ?_⟩) (fun hg => nE ⟨rfl, H, rfl, hH, ?_⟩)⟩⟩
  · rw [show (60 - i).toNat = 0 by omega] at hz
    rw [← hz]
    exact hR
  · rintro x m ⟨H2, rfl, f2, T2, q2, -⟩
    have q2 := q2 hg
    rw [show (60 - i).toNat = (60 - (i + 1)).toNat + 1 by omega] at hz
    obtain ⟨a1, a2, a3, a4⟩ := tw hw f2
    obtain ⟨v1, v2, v3, v4⟩ := hR.2.2 hg
    unfold zskipP at T2
    subst q2
    have hz : (if zskip t most 59 p = true then zparts t most (60 - (i + 1)).toNat (zpart t most ((p.1 + 1, -1), v, wa)) else (p, v, wa)) = zwalk t most := hz
    by_cases e : zskip t most 59 p = true
    · rw [if_pos e] at T2 hz ⊢
      rw [hg] at T2
      refine yE ⟨sw.1, cV (C_readPart (D := H2) (p := (p.1 + 1, -1)) (v := v) (wa := wa) hw rfl ⟨T2, by rw [a3]; exact hR.2.1, fun _ => by rw [a1, a2, a4, a3]; exact ⟨v1, v2, v3, v4⟩⟩) ?_⟩
      rintro m ⟨H3, rfl, f3, R3⟩ z rfl
      rw [w32_id (by omega) (by omega)]
      exact ih (i + 1) _ ⟨H3, _, rfl, (hH.trans (mt (rF_t f2))).trans (mt f3), by omega, by omega, R3, hz⟩ (by omega)
    · rw [if_neg e] at T2 hz ⊢
      refine nE ⟨rfl, H2, rfl, hH.trans (mt (rF_t f2)), ?_⟩
      rw [← hz]
      exact ⟨T2, by rw [a3]; exact hR.2.1, fun _ => by rw [a1, a2, a4, a3]; exact ⟨v1, v2, v3, v4⟩⟩
  · have e : zparts t most (60 - i).toNat (p, v, wa) = (p, v, wa) := by
      rw [show (60 - i).toNat = (60 - (i + 1)).toNat + 1 by omega]
      refine if_neg ?_
      unfold zskip
      rw [decide_eq_false hg]
      exact fun z => by cases z
    rw [e] at hz
    rw [← hz]
    exact hR
end WRD2
