/-! ===== the model's walk: its end, its loop ===== -/
theorem zparts_0 {t : Int → Int} {en : Int} {x : Ws} (h : ¬ zskip t en 59 x.1 = true) : ∀ n, zparts t en n x = x
  | 0 => rfl
  | _ + 1 => if_neg h
section MWE
variable {d n1 : Nat} {W : Nat → Nat} {D : DD} {t : Int → Int} {en : Int} {p : Ps} {v : Wv} {wa : Int}
theorem sR_152_17 {b : Nat} : sR (D, rho n1 W) 152 17 b = (D, rho n1 (uW W 12 b)) := by
  show (D, (fun o k => if o = 152 ∧ k = 17 then b else RF W o k), KT, NT n1, 0) = (D, RF (uW W 12 b), KT, NT n1, 0)
  rw [RF_u152_17]
theorem C_mstart {a : Nat} {n mx : Int} : Cl d 0 0 mX10_start [vr 152, vr a, vi n, vi mx] (D, rho n1 W) (KV (fun m => m = (wr (wr (wr (wr D 152 18 n) 152 19 mx) 152 20 0) 152 21 (-1), rho n1 (uW W 12 a)))) := by
  refine Cl_of mb_X10_start (Nat.le_of_ble_eq_true rfl) (sg_X10_start_0 ⟨rfl, fun m1 e1 => ?_⟩)
  have e1 : m1 = (D, rho n1 (uW W 12 a)) := e1.trans sR_152_17
  subst e1
  exact ⟨rfl, fun m2 e2 m3 e3 m4 e4 m5 e5 => ⟨rfl, by rw [e5, e4, e3, e2]; rfl⟩⟩
/-- what is to hold at the return -/
def WmQ (n1 : Nat) (D : DD) (W : Nat → Nat) (t : Int → Int) (n i : Int) : Option (Option AV) → Mem → Prop := KI (fun r m => ∃ D', m = (D', rho n1 W) ∧ D' 152 12 = D 152 12 ∧ D' 152 15 = D 152 15 ∧
  (¬ zwFin t n = -1 ∧ r = w32 (-1 - zwFin t n) ∧ Fr wm0 D D' ∨ zwFin t n = -1 ∧ r = wTicks (zwalk t (min n 60)).2.1 ∧ wkm D' i = (zwalk t (min n 60)).2.1 ∧ Fr (wmS i) D D'))
theorem wm0_w {D' : DD} (f : Fr mwF D D') : Fr wm0 D D' := f.mono (fun q j h => by unfold mwF at h; unfold wm0; omega)
theorem m_end {i s n : Int} {G : DD} (hi : 0 ≤ i ∧ i ≤ 3) (f : Fr mwF D G) (hn : D 152 18 = n) (en0 : en = min n 60) (hg : p.2 = -1) (hz : (p, v, wa) = zwalk t (min n 60)) (R : MwR G W t en (p, v, wa) s) :
    Wp (d + 4) 0 0 mX10_walk 61 [some (vr 152), some (vi i), some (vi s), some (vi 0), none, none, none, none, none, none] [] (G, rho n1 W) (WmQ n1 D W t n i) := by
  obtain ⟨hT, hb, hv⟩ := R
  obtain ⟨v1, v2, v3, v4⟩ := hv hg
  have hT : MxR G W t en p := hT
  have v1 : mwv G s = v := v1
  have hp := hT.at hg
  have eat := (hT.2.2.2.1 hg).1
  have hz1 : (zwalk t (min n 60)).1 = p := by rw [← hz]
  have hz2 : (zwalk t (min n 60)).2.1 = v := by rw [← hz]
  have e18 : G 152 18 = n := by rw [f 152 18 (by unfold mwF; omega), hn]
  have e12 : G 152 12 = D 152 12 := f 152 12 (by unfold mwF; omega)
  have e15 : G 152 15 = D 152 15 := f 152 15 (by unfold mwF; omega)
  have eF : zwFin t n = if p.1 < en ∨ en < n then p.1 else -1 := by
    unfold zwFin
    rw [hz1]
    unfold zfin
    rw [if_pos hg, ← en0]
  refine sg_X10_walk_61 ⟨fun _ => ⟨rfl, fun c => ?_, fun c => ?_⟩, fun c => absurd rfl c⟩
  rotate_left
  · have c : ¬ G 152 18 ≤ G 152 20 := c
    rw [e18, eat] at c
    have eF : zwFin t n = p.1 := by rw [eF, if_pos (by omega)]
    refine ⟨_, rfl, G, rfl, e12, e15, Or.inl ⟨by omega, ?_, wm0_w f⟩⟩
    rw [eF, ← eat]
    rfl
  have c : G 152 18 ≤ G 152 20 := c
  rw [e18, eat] at c
  have eF : zwFin t n = -1 := by rw [eF, if_neg (by omega)]
  refine ⟨rfl, bnd (N := 4) rfl hi.1 (by omega), fun m1 e1 => ?_⟩
  have e1 : m1 = (wr G 161 i (G 152 32), rho n1 W) := e1
  subst e1
  refine ⟨rfl, bnd (N := 4) rfl hi.1 (by omega), fun m2 e2 => ?_⟩
  have e2 : m2 = (wr (wr G 161 i (G 152 32)) 162 i s, rho n1 W) := e2
  obtain ⟨B, hB⟩ : ∃ B, B = wr (wr G 161 i (G 152 32)) 162 i s := ⟨_, rfl⟩
  rw [← hB] at e2
  subst e2
  have fB : Fr (fun q j => (q = 161 ∨ q = 162) ∧ j = i) G B := by
    rw [hB]
    exact (Fr.refl.wr ⟨Or.inl rfl, rfl⟩).wr ⟨Or.inr rfl, rfl⟩
  have B8 : B 161 i = G 152 32 := by rw [hB, wr_o (by decide), wr_at]
  have B9 : B 162 i = s := by rw [hB, wr_at]
  have b32 : B 152 32 = G 152 32 := fB 152 32 (by omega)
  refine Wp.loop (σ := Int) (fun k => [some (vr 152), some (vi i), some (vi s), some (vi 0), some (vi k), none, none, none, none, none])
    (fun k μ => ∃ E : DD, μ = (E, rho n1 W) ∧ Fr (fun q j => (163 ≤ q ∧ q ≤ 166) ∧ 1000 * i ≤ j ∧ j < 1000 * i + 1000) B E ∧ 0 ≤ k ∧ k ≤ G 152 32 ∧ (∀ j, 0 ≤ j → j < k → E 163 (1000 * i + j) = G 167 j ∧ E 164 (1000 * i + j) = G 168 j ∧ E 165 (1000 * i + j) = G 169 j ∧ E 166 (1000 * i + j) = G 170 j))
    (fun k => (G 152 32 - k).toNat) ?_ 0 _ ⟨B, rfl, Fr.refl, by decide, hb.1, fun j a b => by omega⟩
  rintro k μ ⟨E, rfl, hE, k0, k1, hc⟩ ih
  have x32 : E 152 32 = G 152 32 := by rw [hE 152 32 (by omega), b32]
  have w1 : w32 (1000 * i) = 1000 * i := w32_id (by omega) (by omega)
  refine sg_X10_walk_496 ⟨rfl, fun c2 => ?_, fun c2 => ?_⟩
  · have c2 : E 152 32 ≤ k := c2
    have ek : k = G 152 32 := by omega
    refine ⟨_, rfl, E, rfl, by rw [hE 152 12 (by omega), fB 152 12 (by omega), e12], by rw [hE 152 15 (by omega), fB 152 15 (by omega), e15], Or.inr ⟨eF, ?_, ?_, ?_⟩⟩
    · rw [hz2, ← v1]
      show E 152 32 = G 152 32
      omega
    · rw [hz2, ← v1]
      unfold wkm mwv
      rw [hE 161 i (by omega), hE 162 i (by omega), B8, B9]
      rw [cut_ext (f := fun k => E 163 (1000 * i + k)) (g := G 167) (fun j a b => (hc j a (by omega)).1), cut_ext (f := fun k => E 164 (1000 * i + k)) (g := G 168) (fun j a b => (hc j a (by omega)).2.1), cut_ext (f := fun k => E 165 (1000 * i + k)) (g := G 169) (fun j a b => (hc j a (by omega)).2.2.1), cut_ext (f := fun k => E 166 (1000 * i + k)) (g := G 170) (fun j a b => (hc j a (by omega)).2.2.2)]
    · exact (((wm0_w f).mono (fun q j z => Or.inl z)).trans (fB.mono (fun q j z => Or.inr (Or.inl z)))).trans (hE.mono (fun q j z => Or.inr (Or.inr z)))
  · have c2 : ¬ E 152 32 ≤ k := c2
    have wx : w32 (w32 (1000 * i) + k) = 1000 * i + k := by rw [w1, w32_id (by omega) (by omega)]
    rw [wx]
    have hk0 : 0 ≤ 1000 * i + k := by omega
    have hk1 : 1000 * i + k < 4000 := by omega
    refine ⟨Or.inl rfl, bnd (N := 1000) rfl k0 (by omega), rfl, bnd (N := 4000) rfl hk0 hk1, fun m1 e1 => ?_⟩
    have e1 : m1 = (wr E 163 (1000 * i + k) (E 167 k), rho n1 W) := e1
    subst e1
    refine ⟨Or.inl rfl, bnd (N := 1000) rfl k0 (by omega), rfl, bnd (N := 4000) rfl hk0 hk1, fun m2 e2 => ?_⟩
    have e2 : m2 = (wr (wr E 163 (1000 * i + k) (E 167 k)) 164 (1000 * i + k) (E 168 k), rho n1 W) := by
      rw [e2, show mD (wr E 163 (1000 * i + k) (E 167 k), rho n1 W) (mR (wr E 163 (1000 * i + k) (E 167 k), rho n1 W) 152 29) k = E 168 k from by show wr E 163 (1000 * i + k) (E 167 k) 168 k = _; rw [wr_o (by decide)]]
      rfl
    subst e2
    refine ⟨Or.inl rfl, bnd (N := 1000) rfl k0 (by omega), rfl, bnd (N := 4000) rfl hk0 hk1, fun m3 e3 => ?_⟩
    have e3 : m3 = (wr (wr (wr E 163 (1000 * i + k) (E 167 k)) 164 (1000 * i + k) (E 168 k)) 165 (1000 * i + k) (E 169 k), rho n1 W) := by
      rw [e3]
      show (wr _ 165 (1000 * i + k) (wr (wr E 163 (1000 * i + k) (E 167 k)) 164 (1000 * i + k) (E 168 k) 169 k), rho n1 W) = _
      rw [show wr (wr E 163 (1000 * i + k) (E 167 k)) 164 (1000 * i + k) (E 168 k) 169 k = E 169 k from by rw [wr_o (by decide), wr_o (by decide)]]
      rfl
    subst e3
    refine ⟨Or.inl rfl, bnd (N := 1000) rfl k0 (by omega), rfl, bnd (N := 4000) rfl hk0 hk1, fun m4 e4 z ez => ?_⟩
    have e4 : m4 = (wr (wr (wr (wr E 163 (1000 * i + k) (E 167 k)) 164 (1000 * i + k) (E 168 k)) 165 (1000 * i + k) (E 169 k)) 166 (1000 * i + k) (E 170 k), rho n1 W) := by
      rw [e4]
      show (wr _ 166 (1000 * i + k) (wr (wr (wr E 163 (1000 * i + k) (E 167 k)) 164 (1000 * i + k) (E 168 k)) 165 (1000 * i + k) (E 169 k) 170 k), rho n1 W) = _
      rw [show wr (wr (wr E 163 (1000 * i + k) (E 167 k)) 164 (1000 * i + k) (E 168 k)) 165 (1000 * i + k) (E 169 k) 170 k = E 170 k from by rw [wr_o (by decide), wr_o (by decide), wr_o (by decide)]]
      rfl
    subst e4
    rw [w32_id (by omega) (by omega)] at ez
    subst ez
    have gE : ∀ q, 167 ≤ q → q ≤ 170 → E q k = G q k := fun q a b => by rw [hE q k (by omega), fB q k (by omega)]
    refine ih (k + 1) _ ⟨_, rfl, (((hE.wr (by omega)).wr (by omega)).wr (by omega)).wr (by omega), by omega, by omega, fun j a b => ?_⟩ (by omega)
    by_cases q : j = k
    · subst q
      refine ⟨?_, ?_, ?_, ?_⟩
      · rw [wr_o (by decide), wr_o (by decide), wr_o (by decide), wr_at]; exact gE 167 (by decide) (by decide)
      · rw [wr_o (by decide), wr_o (by decide), wr_at]; exact gE 168 (by decide) (by decide)
      · rw [wr_o (by decide), wr_at]; exact gE 169 (by decide) (by decide)
      · rw [wr_at]; exact gE 170 (by decide) (by decide)
    · have hj := hc j a (by omega)
      refine ⟨?_, ?_, ?_, ?_⟩
      · rw [wr_o (by decide), wr_o (by decide), wr_o (by decide), wr_j (by omega)]; exact hj.1
      · rw [wr_o (by decide), wr_o (by decide), wr_j (by omega), wr_o (by decide)]; exact hj.2.1
      · rw [wr_o (by decide), wr_j (by omega), wr_o (by decide), wr_o (by decide)]; exact hj.2.2.1
      · rw [wr_j (by omega), wr_o (by decide), wr_o (by decide), wr_o (by decide)]; exact hj.2.2.2
theorem m_step {i n s : Int} {G : DD} {y : Ws} (hi : 0 ≤ i ∧ i ≤ 3) (hn : D 152 18 = n) (en0 : en = min n 60) (f : Fr mwF D G) (hg : p.2 = -1) (R : MwR G W t en (p, v, wa) s) (ey : y = zpart t en (p, v, wa)) (fin : ¬ zskip t en 59 y.1 = true → y = zwalk t (min n 60))
    (next : zskip t en 59 y.1 = true → ∀ (H : DD) (s' : Int), Fr mwF D H → MwR H W t en ((y.1.1 + 1, -1), y.2.1, y.2.2) s' → Wp (d + 4) 0 0 mX10_walk 61 [some (vr 152), some (vi i), some (vi s'), some (vi 1), none, none, none, none, none, none] [] (H, rho n1 W) (WmQ n1 D W t n i)) :
    Wp (d + 4) 0 0 mX10_walk 61 [some (vr 152), some (vi i), some (vi s), some (vi 1), none, none, none, none, none, none] [] (G, rho n1 W) (WmQ n1 D W t n i) := by
  refine m_part (by decide) hg (by omega) R ?_
  rw [← ey]
  intro H s' x fH RH
  obtain ⟨q, u, ub⟩ := y
  have hTH : MxR H W t en q := RH.1
  have fDH := f.trans fH
  refine sg_X10_walk_434 ⟨rfl, cB (C_mfine hTH) (fun good => yN ⟨rfl, cI (C_mpasses (d := d + 2) (by decide) hTH) ?_⟩) (fun bad => nN ⟨rfl, ?_⟩)⟩
  · rintro x2 m ⟨K, rfl, fK, TK, e2⟩
    subst e2
    obtain ⟨v1, v2, v3, v4⟩ := RH.2.2 good
    obtain ⟨c1, c2, c3⟩ := mxw (s := s') fK
    by_cases z : zskip t en 59 q = true
    · rw [if_pos z]
      have zz := zskip_at z
      rw [(zskipP_y zz.1 zz.2).2] at TK
      exact next z K s' (fDH.trans (mwF_x fK)) ⟨TK, by rw [c3]; exact RH.2.1, fun _ => by rw [c1, c2, c3]; exact ⟨v1, v2, v3, v4⟩⟩
    · rw [if_neg z]
      rw [(zskipP_n (fun y => z (zskipP_y y.1 y.2).1)).2] at TK
      exact m_end (p := q) hi (fDH.trans (mwF_x fK)) hn en0 good (fin z) ⟨TK, by rw [c3]; exact RH.2.1, fun _ => by rw [c1, c2, c3]; exact ⟨v1, v2, v3, v4⟩⟩
  · have hz := fin (fun z => bad (zskip_at z).1)
    have eF : zwFin t n = q.2 := by
      unfold zwFin
      rw [← hz]
      exact if_neg bad
    refine ⟨_, rfl, H, rfl, fDH 152 12 (by unfold mwF; omega), fDH 152 15 (by unfold mwF; omega), Or.inl ⟨by rw [eF]; exact bad, ?_, wm0_w fDH⟩⟩
    rw [eF, ← hTH.2.1]
    rfl
theorem m_loop {i n : Int} (hi : 0 ≤ i ∧ i ≤ 3) (hn : D 152 18 = n) (en0 : en = min n 60) : ∀ (k : Nat) (G : DD) (s : Int) (p : Ps) (v : Wv) (wa : Int), Fr mwF D G → p.2 = -1 → MwR G W t en (p, v, wa) s → en - p.1 ≤ k → zparts t en k (zpart t en (p, v, wa)) = zwalk t (min n 60) →
    Wp (d + 4) 0 0 mX10_walk 61 [some (vr 152), some (vi i), some (vi s), some (vi 1), none, none, none, none, none, none] [] (G, rho n1 W) (WmQ n1 D W t n i) := by
  intro k
  induction k with
  | zero =>
    intro G s p v wa f hg R hk hz
    have hT : MxR G W t en p := R.1
    have hp := hT.at hg
    refine m_step hi hn en0 f hg R rfl (fun _ => hz) (fun z => ?_)
    exfalso
    have q := zskip_at z
    have m : p.1 ≤ (zpart t en (p, v, wa)).1.1 := zpart_mono (x := (p, v, wa)) hg hp.1 hp.2 q.1
    have := pkc_lt q.2 (by decide)
    have hk : en - p.1 ≤ ((0 : Nat) : Int) := hk
    omega
  | succ k ih =>
    intro G s p v wa f hg R hk hz
    have hT : MxR G W t en p := R.1
    have hp := hT.at hg
    refine m_step hi hn en0 f hg R rfl (fun z => ?_) (fun z H s' fH RH => ?_)
    · rw [← hz, zparts_0 z]
    · have q := zskip_at z
      have m : p.1 ≤ (zpart t en (p, v, wa)).1.1 := zpart_mono (x := (p, v, wa)) hg hp.1 hp.2 q.1
      refine ih H s' _ _ _ fH rfl RH (by dsimp only; omega) ?_
      rw [← hz]
      exact (if_pos z).symm
end MWE
section MWF
variable {d n1 : Nat} {W : Nat → Nat} {D : DD} {t : Int → Int}
theorem C_mwalk {i : Int} (h0 : 0 ≤ D 152 12) (h1 : D 152 12 ≤ 80) (ht : ∀ k, 0 ≤ k → k < D 152 12 → D 159 k = t k) : Cl (d + 4) 0 0 mX10_walk [vr 152, vi i] (D, rho n1 W) (KI (WmA n1 D W t (D 152 12) i)) := by
  generalize hN : D 152 12 = n at h0 h1 ht
  refine Cl_of mb_X10_walk (Nat.le_of_ble_eq_true rfl) (sg_X10_walk_0 ⟨rfl, fun m1 e1 => ?_⟩)
  have e1 : m1 = (wr D 152 15 0, rho n1 W) := e1
  subst e1
  rw [show mD (wr D 152 15 0, rho n1 W) 152 12 = n from by show wr D 152 15 0 152 12 = n; rw [wr_j (by decide), hN]]
  refine cV (C_mstart (D := wr D 152 15 0) (a := 159) (n := n) (mx := 60)) ?_
  rintro m2 rfl
  refine ⟨rfl, fun m3 e3 => ?_⟩
  obtain ⟨E, hE⟩ : ∃ E, E = wr (wr (wr (wr (wr (wr D 152 15 0) 152 18 n) 152 19 60) 152 20 0) 152 21 (-1)) 152 12 0 := ⟨_, rfl⟩
  have e3 : m3 = (E, rho n1 (uW W 12 159)) := by rw [hE]; exact e3
  subst e3
  have fE : Fr (fun q j => q = 152 ∧ (j = 12 ∨ j = 15 ∨ (18 ≤ j ∧ j ≤ 21))) D E := by
    rw [hE]
    exact (((((Fr.refl.wr (by omega)).wr (by omega)).wr (by omega)).wr (by omega)).wr (by omega)).wr (by omega)
  have a12 : E 152 12 = 0 := by rw [hE, wr_at]
  have a15 : E 152 15 = 0 := by rw [hE, wr_j (by decide), wr_j (by decide), wr_j (by decide), wr_j (by decide), wr_j (by decide), wr_at]
  have a18 : E 152 18 = n := by rw [hE, wr_j (by decide), wr_j (by decide), wr_j (by decide), wr_j (by decide), wr_at]
  have a19 : E 152 19 = 60 := by rw [hE, wr_j (by decide), wr_j (by decide), wr_j (by decide), wr_at]
  have a20 : E 152 20 = 0 := by rw [hE, wr_j (by decide), wr_j (by decide), wr_at]
  have a21 : E 152 21 = -1 := by rw [hE, wr_j (by decide), wr_at]
  have m0 : Fr wm0 D E := fE.mono (fun q j z => by unfold wm0; omega)
  refine cB C_in (fun hi => yN ⟨rfl, fun m5 e5 m6 e6 => ?_⟩) (fun hi => nN ⟨_, rfl, E, rfl, a12, a15, Or.inl ⟨hi, rfl, m0⟩⟩)
  obtain ⟨B, hB⟩ : ∃ B, B = wr (wr E 152 32 0) 152 33 0 := ⟨_, rfl⟩
  have e6 : m6 = (B, rho n1 (uW W 12 159)) := by rw [hB, e6, e5]; rfl
  subst e6
  have fB : Fr (fun q j => q = 152 ∧ (j = 32 ∨ j = 33)) E B := by
    rw [hB]
    exact (Fr.refl.wr (by omega)).wr (by omega)
  have b32 : B 152 32 = 0 := by rw [hB, wr_j (by decide), wr_at]
  have b33 : B 152 33 = 0 := by rw [hB, wr_at]
  have b18 : B 152 18 = n := by rw [fB 152 18 (by omega), a18]
  have z : ∀ f : Int → Int, cut 0 f = fun _ => 0 := fun f => by
    funext k
    exact cut_out (by omega)
  have R : MwR B (uW W 12 159) t (min n 60) ((0, -1), w0, 0) 0 := by
    refine ⟨⟨by rw [b18, fB 152 19 (by omega), a19], by rw [fB 152 21 (by omega), a21], by rw [fB 152 20 (by omega), a20]; decide, fun _ => by rw [fB 152 20 (by omega), a20]; exact ⟨rfl, by dsimp only; omega⟩, by show (-1 : Int) ≤ -1; decide, fun k a b => ?_, by omega, Or.inl rfl, fun c => absurd rfl c⟩, by omega, fun _ => ⟨?_, b33, by decide, by omega⟩⟩
    · show B 159 k = t k
      rw [fB 159 k (by omega), fE 159 k (by omega)]
      exact ht k a (by omega)
    · unfold mwv w0
      rw [b32, z, z, z, z]
  have mB : Fr wm0 D B := m0.trans (fB.mono (fun q j z => by unfold wm0; omega))
  have out : ∀ r m, WmQ n1 B (uW W 12 159) t n i r m → KI (WmA n1 D W t n i) r m := by
    rintro r m ⟨x, rfl, D', rfl, q1, q2, q3⟩
    refine ⟨x, rfl, D', rfl, by rw [q1, fB 152 12 (by omega), a12], by rw [q2, fB 152 15 (by omega), a15], Or.inr ?_⟩
    rcases q3 with ⟨q3, q4, q5⟩ | ⟨q3, q4, q5, q6⟩
    · exact Or.inl ⟨hi, q3, q4, mB.trans q5⟩
    · exact Or.inr ⟨hi, q3, q4, q5, (mB.mono (fun q j z => Or.inl z)).trans q6⟩
  refine ⟨fun c => ?_, fun c => ?_⟩
  · have c : B 152 18 ≤ 0 := c
    refine (m_end (D := B) (p := (0, -1)) (v := w0) (wa := 0) hi Fr.refl b18 rfl rfl ?_ R).weak out
    unfold zwalk
    rw [if_neg (by omega)]
  · have c : ¬ B 152 18 ≤ 0 := c
    refine (m_loop (D := B) hi b18 rfl 60 B 0 (0, -1) w0 0 Fr.refl rfl R (by dsimp only; omega) ?_).weak out
    unfold zwalk
    rw [if_pos (by omega)]
end MWF
