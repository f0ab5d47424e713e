/-! ===== the model's LAW: a thing ===== -/
def lc (t : Int → Int) (en : Int) : Nat → Ps → Ls
  | 0 => lcore t en (fun p => (p, [])) false
  | k + 1 => lcore t en (lS t en k) true
theorem lT_eq {t : Int → Int} {en : Int} {k : Nat} {p : Ps} : lT t en k p = lneg (lnegs t en 40 p false).2 (lc t en k (lnegs t en 40 p false).1) := by cases k <;> rfl
theorem lc_num {t : Int → Int} {en : Int} {k : Nat} {q : Ps} (h : 48 ≤ pk t en q.1 ∧ pk t en q.1 ≤ 57) : lc t en k q = (znumP t en 0 999 q, [znumV t en 0 999 q]) := by
  cases k <;> exact if_pos h
theorem lc_name {t : Int → Int} {en : Int} {k : Nat} {q : Ps} (h : ¬ (48 ≤ pk t en q.1 ∧ pk t en q.1 ≤ 57)) (h2 : k = 0 ∨ ¬ pk t en q.1 = 40) : lc t en k q = lname t en q := by
  cases k with
  | zero => exact (if_neg h).trans (if_neg (fun z => Bool.noConfusion z.1))
  | succ k => exact (if_neg h).trans (if_neg (fun z => h2.elim (fun y => by omega) (fun y => y z.2)))
theorem lc_br {t : Int → Int} {en : Int} {k : Nat} {q : Ps} (h2 : pk t en q.1 = 40) : lc t en (k + 1) q = (zneed t en 41 (lS t en k (q.1 + 1, -1)).1, (lS t en k (q.1 + 1, -1)).2) :=
  (if_neg (by omega)).trans (if_pos ⟨rfl, h2⟩)
/-- a thing, its sign apart -/
def MTK (n1 : Nat) (W : Nat → Nat) (t : Int → Int) (en : Int) (ε : LEnv) (k : Nat) (dp n : Int) : Prop := ∀ (D : DD) (p : Ps) (e : Nat), p.2 = -1 → MxR D W t en p → EnvR ε D → en - p.1 ≤ n → 3 * (en - p.1) + 4 ≤ e →
  Cl e 0 0 mX10_thing [vr 152, vi dp] (D, rho n1 W) (KI (fun r m => ∃ D', m = (D', rho n1 W) ∧ Fr mxF D D' ∧ MxR D' W t en (lT t en k p).1 ∧ (LEnv.ok ε → (lT t en k p).1.2 = -1 → ∃ v, Val ε (ndT k) (lc t en k (lnegs t en 40 p false).1).2 v ∧ r = if (lnegs t en 40 p false).2 = true then w32 (-v) else v)))
section MLT
variable {d n1 : Nat} {W : Nat → Nat} {D : DD} {t : Int → Int} {en : Int} {p : Ps} {ε : LEnv}
theorem MTK.ok {k : Nat} {dp n : Int} (h : MTK n1 W t en ε k dp n) : MOK mX10_thing n1 W t en ε (lT t en k) (ndT k) dp 4 n := by
  intro D p e hg hT hE hn he
  refine (h D p e hg hT hE hn he).weak ?_
  rintro r m ⟨x, rfl, D', rfl, f, T, q⟩
  refine ⟨x, rfl, D', rfl, f, T, fun ok g => ?_⟩
  obtain ⟨v, hv, hr⟩ := q ok g
  rw [lT_eq]
  unfold lneg
  by_cases b : (lnegs t en 40 p false).2 = true
  · rw [if_pos b] at hr ⊢
    rw [hr]
    exact hv.neg
  · rw [if_neg b] at hr ⊢
    rw [hr]
    exact hv
theorem M_thing {k : Nat} {dp n : Int} (h40 : en ≤ 40) (hk : (k : Int) = 4 - dp) (hd0 : 0 ≤ dp) (IHt : MTK n1 W t en ε k dp (n - 1)) (IHs : ∀ k', k = k' + 1 → MOK mX10_sum n1 W t en ε (lS t en k') (ndT k' + 2) (dp + 1) 6 (n - 1)) : MTK n1 W t en ε k dp n := by
  intro D p e hg hT hE hn he
  have hp := hT.at hg
  obtain ⟨e0, rfl⟩ : ∃ e0, e = e0 + 4 := ⟨e - 4, by omega⟩
  have he : 3 * (en - p.1) ≤ (e0 : Int) := by omega
  refine Cl_of mb_X10_thing (Nat.le_of_ble_eq_true rfl) (sg_X10_thing_0 ⟨rfl, cI (C_mpasses (d := e0 + 2) (by decide) hT) ?_⟩)
  rintro x1 m ⟨G, rfl, f1, T1, ex⟩
  subst ex
  have hEG := hE.fr f1
  by_cases z : zskip t en 45 p = true
  · rw [if_pos z]
    have zz := zskip_at z
    rw [(zskipP_y zz.1 zz.2).2] at T1
    refine yE ⟨rfl, cI (IHt G (p.1 + 1, -1) (e0 + 3) rfl T1 hEG (by dsimp only; omega) (by dsimp only; omega)) ?_⟩
    rintro x5 m ⟨H, rfl, f2, T2, q2⟩
    have ey := lnegs_y h40 hp.1 z
    have e1 : (lT t en k p).1 = (lT t en k (p.1 + 1, -1)).1 := by
      rw [lT_eq, lT_eq]
      show (lc t en k (lnegs t en 40 p false).1).1 = (lc t en k (lnegs t en 40 (p.1 + 1, -1) false).1).1
      rw [ey]
    rw [e1]
    refine ⟨_, rfl, H, rfl, f1.trans f2, T2, fun ok g => ?_⟩
    obtain ⟨v, hv, hr⟩ := q2 ok g
    rw [ey]
    refine ⟨v, hv, ?_⟩
    dsimp only
    rw [hr]
    by_cases b : (lnegs t en 40 (p.1 + 1, -1) false).2 = true
    · rw [if_pos b, b, if_neg (by decide)]
      have r := w32_r (-v)
      have i := w32_r v
      rw [hv.1] at i
      unfold w32 r32 at *
      omega
    · rw [if_neg b, if_pos (by rw [Bool.not_eq_true] at b; rw [b]; rfl)]
  rw [if_neg z]
  rw [(zskipP_n (fun y => z (zskipP_y y.1 y.2).1)).2] at T1
  have eat : G 152 20 = p.1 := (T1.2.2.2.1 hg).1
  have en1 := lnegs_n z
  have eT : lT t en k p = lc t en k p := by
    rw [lT_eq, en1]
    rfl
  have w1 : w32 (G 152 20 + 1) = G 152 20 + 1 := by
    have := T1.2.2.1
    exact w32_id (by omega) (by omega)
  rw [eT, en1]
  have fin : ∀ {r : Int} {H : DD}, Fr mxF G H → MxR H W t en (lc t en k p).1 → (LEnv.ok ε → (lc t en k p).1.2 = -1 → Val ε (ndT k) (lc t en k p).2 r) → KI (fun r m => ∃ D', m = (D', rho n1 W) ∧ Fr mxF D D' ∧ MxR D' W t en (lc t en k p).1 ∧ (LEnv.ok ε → (lc t en k p).1.2 = -1 → ∃ v, Val ε (ndT k) (lc t en k (p, false).1).2 v ∧ r = if (p, false).2 = true then w32 (-v) else v)) (some (some (vi r))) (H, rho n1 W) :=
    fun f T q => ⟨_, rfl, _, rfl, f1.trans f, T, fun ok g => ⟨_, q ok g, rfl⟩⟩
  have s67 : (k = 0 ∨ ¬ pk t en p.1 = 40) → Wp (e0 + 4) 0 0 mX10_thing 67 [some (vr 152), some (vi dp), some (vi (pk t en p.1)), none] [] (G, rho n1 W) (KI (fun r m => ∃ D', m = (D', rho n1 W) ∧ Fr mxF D D' ∧ MxR D' W t en (lc t en k p).1 ∧ (LEnv.ok ε → (lc t en k p).1.2 = -1 → ∃ v, Val ε (ndT k) (lc t en k (p, false).1).2 v ∧ r = if (p, false).2 = true then w32 (-v) else v))) := by
    intro hno
    refine sg_X10_thing_67 (cB C_in (fun hx => yE ⟨rfl, cI (C_mnumber (d := e0 + 1) T1) ?_⟩) (fun hx => nE ?_))
    · rintro x2 m ⟨H, rfl, f2, T2, q2, b2, -⟩
      refine fin f2 ?_ ?_
      · rw [lc_num hx]
        exact T2
      · rw [lc_num hx]
        intro _ g
        rw [(q2 g).1] at b2 ⊢
        refine (Val.one (by omega) (by omega) (w32_id (by omega) (by omega)) ?_).le (by unfold ndT; omega)
        rw [if_neg (by omega)]
    · have eL : lc t en k p = lname t en p := lc_name hx hno
      have go : ∀ (c x : Int), 0 ≤ c → pk t en p.1 = c → (c = 112 ∧ x = -6 ∨ c = 115 ∧ x = -7 ∨ c = 116 ∧ x = -8 ∨ c = 102 ∧ x = -9 ∨ c = 104 ∧ x = -10) → lname t en p = ((p.1 + 1, -1), [x]) → Wp (e0 + 4) 0 0 mX10_thing 127 [some (vr 152), some (vi dp), some (vi (pk t en p.1)), none] [] (G, rho n1 W) (KI (fun r m => ∃ D', m = (D', rho n1 W) ∧ Fr mxF D D' ∧ MxR D' W t en (lc t en k p).1 ∧ (LEnv.ok ε → (lc t en k p).1.2 = -1 → ∃ v, Val ε (ndT k) (lc t en k (p, false).1).2 v ∧ r = if (p, false).2 = true then w32 (-v) else v))) := by
        intro c x hc hpk hcx hl
        have hlt := pkc_lt hpk hc
        rw [hpk]
        refine sg_X10_thing_127 ⟨rfl, fun m1 e1 => ?_⟩
        have e1 : m1 = (wr G 152 20 (G 152 20 + 1), rho n1 W) := by
          rw [e1, show mD (G, rho n1 W) 152 20 = G 152 20 from rfl, w1]
          rfl
        subst e1
        have fS : Fr mxF G (wr G 152 20 (G 152 20 + 1)) := Fr.refl.wr ⟨rfl, Or.inl rfl⟩
        have TS := mx_step T1 hg hlt.2
        obtain ⟨v1, v2, v3, v4, v5⟩ := hEG.fr fS
        have one : ∀ r, (LEnv.ok ε → w32 r = r) → (zname x (LEnv.pu ε) (LEnv.sl ε) (LEnv.ti ε) (LEnv.fo ε) (LEnv.he ε) = r) → KI (fun r m => ∃ D', m = (D', rho n1 W) ∧ Fr mxF D D' ∧ MxR D' W t en (lc t en k p).1 ∧ (LEnv.ok ε → (lc t en k p).1.2 = -1 → ∃ v, Val ε (ndT k) (lc t en k (p, false).1).2 v ∧ r = if (p, false).2 = true then w32 (-v) else v)) (some (some (vi r))) (wr G 152 20 (G 152 20 + 1), rho n1 W) := fun r hr hz => by
          refine fin fS (by rw [eL, hl]; exact TS) (fun ok _ => ?_)
          rw [eL, hl]
          exact (Val.one (by omega) (by omega) (hr ok) (by rw [if_pos (by omega)]; exact hz)).le (by unfold ndT; omega)
        have zn : ∀ a b c d e : Int, zname (-6) a b c d e = a ∧ zname (-7) a b c d e = b ∧ zname (-8) a b c d e = c ∧ zname (-9) a b c d e = d ∧ zname (-10) a b c d e = e := fun a b c d e => ⟨rfl, rfl, rfl, rfl, rfl⟩
        obtain ⟨z1, z2, z3, z4, z5⟩ := zn (LEnv.pu ε) (LEnv.sl ε) (LEnv.ti ε) (LEnv.fo ε) (LEnv.he ε)
        refine ⟨fun n1 => ⟨fun n2 => ⟨fun n3 => ⟨fun n4 => one _ (fun ok => ?_) ?_, fun h4 => ⟨Or.inl rfl, bnd (N := 7) rfl (by decide) (by decide), one _ (fun ok => ?_) ?_⟩⟩, fun h3 => one _ (fun ok => ?_) ?_⟩, fun h2 => one _ (fun ok => ?_) ?_⟩, fun h1 => one _ (fun ok => ?_) ?_⟩
        · show w32 (wr G 152 20 (G 152 20 + 1) 152 39) = wr G 152 20 (G 152 20 + 1) 152 39
          rw [v5]; exact ok.2.2.2.2
        · rw [show x = -10 by omega, z5]; exact v5.symm
        · show w32 (wr G 152 20 (G 152 20 + 1) 153 2) = wr G 152 20 (G 152 20 + 1) 153 2
          rw [v4]; exact ok.2.2.2.1
        · rw [show x = -9 by omega, z4]; exact v4.symm
        · show w32 (wr G 152 20 (G 152 20 + 1) 152 38) = wr G 152 20 (G 152 20 + 1) 152 38
          rw [v3]; exact ok.2.2.1
        · rw [show x = -8 by omega, z3]; exact v3.symm
        · show w32 (wr G 152 20 (G 152 20 + 1) 152 37) = wr G 152 20 (G 152 20 + 1) 152 37
          rw [v2]; exact ok.2.1
        · rw [show x = -7 by omega, z2]; exact v2.symm
        · show w32 (wr G 152 20 (G 152 20 + 1) 152 36) = wr G 152 20 (G 152 20 + 1) 152 36
          rw [v1]; exact ok.1
        · rw [show x = -6 by omega, z1]; exact v1.symm
      refine ⟨fun c1 => go 112 (-6) (by decide) c1 (by omega) ?_, fun n1 => ⟨fun c2 => go 115 (-7) (by decide) c2 (by omega) ?_, fun n2 => ⟨fun c3 => go 116 (-8) (by decide) c3 (by omega) ?_, fun n3 => ⟨fun c4 => go 102 (-9) (by decide) c4 (by omega) ?_, fun n4 => ⟨fun c5 => go 104 (-10) (by decide) c5 (by omega) ?_, fun n5 => ⟨rfl, cV (C_mfault (d := e0 + 2) (pl := G 152 20) (fun _ => T1.2.2.1.1) T1) ?_⟩⟩⟩⟩⟩⟩
      · unfold lname
        rw [if_pos c1]
      · unfold lname
        rw [if_neg n1, if_pos c2]
      · unfold lname
        rw [if_neg n1, if_neg n2, if_pos c3]
      · unfold lname
        rw [if_neg n1, if_neg n2, if_neg n3, if_pos c4]
      · unfold lname
        rw [if_neg n1, if_neg n2, if_neg n3, if_neg n4, if_pos c5]
      · rintro m ⟨H, rfl, f2, T2⟩
        rw [if_pos hg, eat] at T2
        have el : lname t en p = ((p.1, p.1), []) := by
          unfold lname
          rw [if_neg n1, if_neg n2, if_neg n3, if_neg n4, if_neg n5]
        refine fin f2 (by rw [eL, el]; exact T2) (fun _ g => ?_)
        rw [eL, el] at g
        have g : p.1 = -1 := g
        omega
  refine nE ⟨rfl, cP (C_mfine T1) ?_⟩
  rw [bi_1 hg]
  refine yN ⟨rfl, cP (C_mhere T1) ?_⟩
  rw [eat]
  refine ⟨fun c => s67 (Or.inr c), fun c => ⟨fun c4 => s67 (Or.inl (by omega)), fun c4 => ⟨rfl, fun m4 e4 => ?_⟩⟩⟩
  obtain ⟨k', rfl⟩ : ∃ k', k = k' + 1 := ⟨k - 1, by omega⟩
  have e4 : m4 = (wr G 152 20 (G 152 20 + 1), rho n1 W) := by
    rw [e4, show mD (G, rho n1 W) 152 20 = G 152 20 from rfl, w1]
    rfl
  subst e4
  have hlt := pkc_lt c (by decide)
  have fS : Fr mxF G (wr G 152 20 (G 152 20 + 1)) := Fr.refl.wr ⟨rfl, Or.inl rfl⟩
  have TS := mx_step T1 hg hlt.2
  rw [show w32 (dp + 1) = dp + 1 from w32_id (by omega) (by omega)]
  refine cI (IHs k' rfl _ (p.1 + 1, -1) (e0 + 3) rfl TS (hEG.fr fS) (by dsimp only; omega) (by dsimp only; omega)) ?_
  rintro x4 m ⟨H, rfl, f2, T2, q2⟩
  refine ⟨rfl, cV (C_mneed (d := e0 + 1) (by decide) T2) ?_⟩
  rintro m ⟨K, rfl, f3, T3⟩
  have eL := lc_br (k := k') c
  refine fin ((fS.trans f2).trans f3) (by rw [eL]; exact T3) (fun ok g => ?_)
  rw [eL] at g ⊢
  exact (q2 ok (zneed_g g)).le (by unfold ndT; omega)
end MLT
