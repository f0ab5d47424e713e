/-! ===== the model's reading of a TEXT ===== -/
def mtId (a : Nat) : Prop := a = 159 ∨ a = 172 ∨ a = 173 ∨ a = 174
def MxR (D : DD) (W : Nat → Nat) (t : Int → Int) (en : Int) (p : Ps) : Prop :=
  min (D 152 18) (D 152 19) = en ∧ D 152 21 = p.2 ∧ (0 ≤ D 152 20 ∧ D 152 20 ≤ 80) ∧ (p.2 = -1 → D 152 20 = p.1 ∧ p.1 ≤ en) ∧ -1 ≤ p.2 ∧ (∀ k, 0 ≤ k → k < en → D (W 12) k = t k) ∧ en ≤ 80 ∧ mtId (W 12) ∧ (¬ W 12 = 159 → en ≤ 40)
def mxF (q : Nat) (j : Int) : Prop := q = 152 ∧ (j = 20 ∨ j = 21)
theorem zdg_mono {t : Int → Int} {en : Int} : ∀ {n : Nat} {v a : Int}, 0 ≤ v → v ≤ (zdg t en n v a).1
  | 0, v, a, _ => Int.le_refl _
  | n + 1, v, a, hv => by
    have e : zdg t en (n + 1) v a = if 48 ≤ pk t en a ∧ pk t en a ≤ 57 then zdg t en n (10 * v + pk t en a - 48) (a + 1) else (v, a) := rfl
    rw [e]
    by_cases q : 48 ≤ pk t en a ∧ pk t en a ≤ 57
    · rw [if_pos q]
      have := zdg_mono (t := t) (en := en) (n := n) (v := 10 * v + pk t en a - 48) (a := a + 1) (by omega)
      omega
    · rw [if_neg q]
      exact Int.le_refl _
section MTX
variable {d n1 : Nat} {W : Nat → Nat} {D : DD} {t : Int → Int} {en : Int} {p : Ps}
theorem mt_k (h : mtId (W 12)) : mK (D, rho n1 W) (W 12) = 22 := by
  unfold mtId at h
  rcases h with h | h | h | h <;> rw [h] <;> rfl
theorem mt_n (h : mtId (W 12)) : mN (D, rho n1 W) (W 12) = if W 12 = 159 then 80 else 40 := by
  unfold mtId at h
  rcases h with h | h | h | h <;> rw [h] <;> rfl
theorem MxR.fr {D' : DD} {F : Nat → Int → Prop} (h : MxR D W t en p) (f : Fr F D D') (n1 : ∀ j, 18 ≤ j → j ≤ 21 → ¬ F 152 j) (n2 : ∀ j, ¬ F (W 12) j) : MxR D' W t en p := by
  obtain ⟨h1, h2, h3, h4, h5, h6, h7⟩ := h
  have e := fun j a b => f 152 j (n1 j a b)
  exact ⟨by rw [e 18 (by decide) (by decide), e 19 (by decide) (by decide)]; exact h1, by rw [e 21 (by decide) (by decide)]; exact h2, by rw [e 20 (by decide) (by decide)]; exact h3, fun z => by rw [e 20 (by decide) (by decide)]; exact h4 z, h5, fun k a b => by rw [f _ k (n2 k)]; exact h6 k a b, h7⟩
theorem MxR.at (h : MxR D W t en p) (g : p.2 = -1) : 0 ≤ p.1 ∧ p.1 ≤ en := by
  have h4 := h.2.2.2.1 g
  have h3 := h.2.2.1
  omega
theorem C_in {x lo hi : Int} {μ : Mem} : Cl d 0 0 mX10_in [vi x, vi lo, vi hi] μ (KI (fun r m => r = bi (lo ≤ x ∧ x ≤ hi) ∧ m = μ)) :=
  Cl_of mb_X10_in (Nat.le_of_ble_eq_true rfl) (sg_X10_in_0 ⟨fun c => ⟨_, rfl, (bi_0 (by omega)).symm, rfl⟩, fun c => ⟨fun c2 => ⟨_, rfl, (bi_0 (by omega)).symm, rfl⟩, fun c2 => ⟨_, rfl, (bi_1 (by omega)).symm, rfl⟩⟩⟩)
theorem C_mhere (h : MxR D W t en p) : Cl d 0 0 mX10_here [vr 152] (D, rho n1 W) (KI (fun x m => x = pk t en (D 152 20) ∧ m = (D, rho n1 W))) := by
  obtain ⟨h1, h2, h3, h4, h5, h6, h7, h8, h9⟩ := h
  have hno : ¬ D 152 20 < en → pk t en (D 152 20) = -1 := fun c => if_neg (fun z => c z.2)
  refine Cl_of mb_X10_here (Nat.le_of_ble_eq_true rfl) (sg_X10_here_0 ⟨rfl, fun c => ⟨_, rfl, (hno ?_).symm, rfl⟩, fun c => ⟨fun c2 => ⟨_, rfl, (hno ?_).symm, rfl⟩, fun c2 => ⟨mt_k h8, bnd (mt_n h8) h3.1 ?_, _, rfl, ?_, rfl⟩⟩⟩)
  · change D 152 18 ≤ D 152 20 at c
    omega
  · change D 152 19 ≤ D 152 20 at c2
    omega
  · change ¬ D 152 18 ≤ D 152 20 at c
    change ¬ D 152 19 ≤ D 152 20 at c2
    show D 152 20 < _
    by_cases q : W 12 = 159
    · rw [if_pos q]
      show D 152 20 < 80
      omega
    · rw [if_neg q]
      have := h9 q
      show D 152 20 < 40
      omega
  · change ¬ D 152 18 ≤ D 152 20 at c
    change ¬ D 152 19 ≤ D 152 20 at c2
    show D (W 12) (D 152 20) = pk t en (D 152 20)
    rw [h6 _ h3.1 (by omega)]
    exact (if_pos ⟨h3.1, by omega⟩).symm
theorem C_mfine (h : MxR D W t en p) : Cl d 0 0 mX10_fine [vr 152] (D, rho n1 W) (KI (fun x m => x = bi (p.2 = -1) ∧ m = (D, rho n1 W))) := by
  have h2 := h.2.1
  refine Cl_of mb_X10_fine (Nat.le_of_ble_eq_true rfl) (sg_X10_fine_0 ⟨rfl, fun c => ⟨_, rfl, (bi_0 ?_).symm, rfl⟩, fun c => ⟨_, rfl, (bi_1 ?_).symm, rfl⟩⟩)
  · change ¬ D 152 21 = -1 at c
    rw [← h2]
    exact c
  · change D 152 21 = -1 at c
    rw [← h2]
    exact c
theorem C_mfault {pl : Int} (h0 : p.2 = -1 → 0 ≤ pl) (h : MxR D W t en p) : Cl (d + 1) 0 0 mX10_fault [vr 152, vi pl] (D, rho n1 W) (KV (fun m => ∃ D', m = (D', rho n1 W) ∧ Fr mxF D D' ∧ MxR D' W t en (p.1, if p.2 = -1 then pl else p.2))) := by
  refine Cl_of mb_X10_fault (Nat.le_of_ble_eq_true rfl) (sg_X10_fault_0 ⟨rfl, cB (C_mfine h) (fun hg => yE ⟨rfl, fun m2 e2 => ⟨rfl, wr D 152 21 pl, e2, Fr.refl.wr ⟨rfl, Or.inr rfl⟩, ?_⟩⟩) (fun hg => nE ⟨rfl, D, rfl, Fr.refl, ?_⟩)⟩)
  · obtain ⟨h1, h2, h3, h4, h5, h6, h7, h8, h9⟩ := h
    rw [if_pos hg]
    have h8' := h8
    unfold mtId at h8
    exact ⟨by rw [wr_j (by decide), wr_j (by decide)]; exact h1, wr_at, by rw [wr_j (by decide)]; exact h3, fun z => absurd z (by have := h0 hg; show ¬ pl = -1; omega), by have := h0 hg; show -1 ≤ pl; omega, fun k a b => by rw [wr_o (by omega)]; exact h6 k a b, h7, h8', h9⟩
  · rw [if_neg hg]
    exact h
theorem mx_step (h : MxR D W t en p) (hg : p.2 = -1) (hlt : p.1 < en) : MxR (wr D 152 20 (D 152 20 + 1)) W t en (p.1 + 1, -1) := by
  obtain ⟨h1, h2, h3, h4, h5, h6, h7, h8, h9⟩ := h
  have h8' := h8
  have h4 := h4 hg
  unfold mtId at h8
  exact ⟨by rw [wr_j (by decide), wr_j (by decide)]; exact h1, by rw [wr_j (by decide), h2, hg], by rw [wr_at]; omega, fun _ => by rw [wr_at]; dsimp only; omega, by show (-1 : Int) ≤ -1; decide, fun k a b => by rw [wr_o (by omega)]; exact h6 k a b, h7, h8', h9⟩
theorem C_mpasses {c : Int} (hc : 0 ≤ c) (h : MxR D W t en p) : Cl (d + 1) 0 0 mX10_passes [vr 152, vi c] (D, rho n1 W) (KI (fun x m => ∃ D', m = (D', rho n1 W) ∧ Fr mxF D D' ∧ MxR D' W t en (zskipP t en c p) ∧ x = if zskip t en c p = true then 1 else 0)) := by
  refine Cl_of mb_X10_passes (Nat.le_of_ble_eq_true rfl) (sg_X10_passes_0 ⟨rfl, cB (C_mfine h) (fun hg => yE ⟨rfl, cP (C_mhere h) ⟨fun e => ⟨rfl, fun m3 e3 => ⟨_, rfl, wr D 152 20 (D 152 20 + 1), ?_, Fr.refl.wr ⟨rfl, Or.inl rfl⟩, ?_, ?_⟩⟩, fun e => ⟨_, rfl, D, rfl, Fr.refl, ?_, ?_⟩⟩⟩) (fun hg => nE ⟨_, rfl, D, rfl, Fr.refl, ?_, ?_⟩)⟩)
  · have h3 := h.2.2.1
    have w1 : w32 (D 152 20 + 1) = D 152 20 + 1 := w32_id (by omega) (by omega)
    rw [e3, ← w1]
    rfl
  · rw [(h.2.2.2.1 hg).1] at e
    rw [(zskipP_y hg e).2]
    exact mx_step h hg (pkc_lt e hc).2
  · rw [(h.2.2.2.1 hg).1] at e
    rw [if_pos (zskipP_y hg e).1]
  · rw [(h.2.2.2.1 hg).1] at e
    rw [(zskipP_n (fun z => e z.2)).2]
    exact h
  · rw [(h.2.2.2.1 hg).1] at e
    rw [if_neg (zskipP_n (fun z => e z.2)).1]
  · rw [(zskipP_n (fun z => hg z.1)).2]
    exact h
  · rw [if_neg (zskipP_n (fun z => hg z.1)).1]
theorem C_mneed {c : Int} (hc : 0 ≤ c) (h : MxR D W t en p) : Cl (d + 2) 0 0 mX10_need [vr 152, vi c] (D, rho n1 W) (KV (fun m => ∃ D', m = (D', rho n1 W) ∧ Fr mxF D D' ∧ MxR D' W t en (zneed t en c p))) := by
  refine Cl_of mb_X10_need (Nat.le_of_ble_eq_true rfl) (sg_X10_need_0 ⟨rfl, cI (C_mpasses hc h) ?_⟩)
  rintro x m ⟨G, rfl, f1, T1, e1⟩
  subst e1
  by_cases q : p.2 = -1 ∧ pk t en p.1 = c
  · rw [if_pos (zskipP_y q.1 q.2).1]
    rw [(zskipP_y q.1 q.2).2] at T1
    refine yN ⟨rfl, G, rfl, f1, ?_⟩
    unfold zneed
    rw [if_pos q.1, if_pos q.2]
    exact T1
  · rw [if_neg (zskipP_n q).1]
    rw [(zskipP_n q).2] at T1
    refine nN ⟨rfl, cV (C_mfault (pl := G 152 20) (fun _ => T1.2.2.1.1) T1) ?_⟩
    rintro m ⟨H, rfl, f2, T2⟩
    refine ⟨rfl, H, rfl, f1.trans f2, ?_⟩
    unfold zneed
    by_cases g : p.2 = -1
    · rw [if_pos g, (T1.2.2.2.1 g).1] at T2
      rw [if_pos g, if_neg (fun z => q ⟨g, z⟩)]
      exact T2
    · rw [if_neg g] at T2 ⊢
      exact T2
theorem C_mnumber {lo hi : Int} (h : MxR D W t en p) : Cl (d + 2) 0 0 mX10_number [vr 152, vi lo, vi hi] (D, rho n1 W) (KI (fun x m => ∃ D', m = (D', rho n1 W) ∧ Fr mxF D D' ∧ MxR D' W t en (znumP t en lo hi p) ∧ ((znumP t en lo hi p).2 = -1 → x = znumV t en lo hi p ∧ p.2 = -1 ∧ 1 ≤ D' 152 20) ∧ (0 ≤ x ∧ x ≤ 999) ∧ (¬ (znumP t en lo hi p).2 = -1 → x = 0))) := by
  have h3 := h.2.2.1
  refine Cl_of mb_X10_number (Nat.le_of_ble_eq_true rfl) (sg_X10_number_0 ⟨rfl, cB (C_mfine h) (fun hg => yN ⟨rfl, ?_⟩) (fun hg => nN ⟨_, rfl, D, rfl, Fr.refl, ?_, ?_, by decide, fun _ => rfl⟩)⟩)
  rotate_left
  · rw [show znumP t en lo hi p = p from if_neg hg]
    exact h
  · rw [show znumP t en lo hi p = p from if_neg hg]
    exact fun z => absurd z hg
  intro a3 ea
  have ha := h.at hg
  have ea : a3 = p.1 := ea.trans (h.2.2.2.1 hg).1
  subst ea
  have r3 := zdg_rng (t := t) (en := en) (n := 3) (v := 0) (a := p.1) (by decide) (by decide) ha.1 ha.2
  have r9 := zdg_999 (t := t) (en := en) (a := p.1)
  have s69 : ∀ (E : DD) (v : Int), Fr mxF D E → MxR E W t en ((zdg t en 3 0 p.1).2, -1) → v = (zdg t en 3 0 p.1).1 → Wp (d + 2) 0 0 mX10_number 69 [some (vr 152), some (vi lo), some (vi hi), some (vi p.1), some (vi v)] [] (E, rho n1 W) (KI (fun x m => ∃ D', m = (D', rho n1 W) ∧ Fr mxF D D' ∧ MxR D' W t en (znumP t en lo hi p) ∧ ((znumP t en lo hi p).2 = -1 → x = znumV t en lo hi p ∧ p.2 = -1 ∧ 1 ≤ D' 152 20) ∧ (0 ≤ x ∧ x ≤ 999) ∧ (¬ (znumP t en lo hi p).2 = -1 → x = 0))) := by
    intro E v hE T hv
    have eat : E 152 20 = (zdg t en 3 0 p.1).2 := (T.2.2.2.1 rfl).1
    refine sg_X10_number_69 ⟨rfl, fun c => cB C_in (fun hx => yN ?_) (fun hx => nN ⟨rfl, ?_⟩), fun c => ?_⟩
    · change ¬ E 152 20 = p.1 at c
      rw [eat] at c
      rw [hv] at hx
      have ez : znumP t en lo hi p = ((zdg t en 3 0 p.1).2, -1) := by
        unfold znumP
        rw [if_pos hg, if_neg c, if_pos hx]
      have ev : znumV t en lo hi p = (zdg t en 3 0 p.1).1 := if_pos ⟨hg, c, hx⟩
      refine sg_X10_number_108 ⟨rfl, cP (C_mfine T) ?_⟩
      rw [bi_1 (show ((zdg t en 3 0 p.1).2, (-1 : Int)).2 = -1 from rfl)]
      refine yE ⟨_, rfl, E, rfl, hE, ?_, fun _ => ⟨?_, hg, by omega⟩, by omega, fun z => absurd (by rw [ez]) z⟩
      · rw [ez]
        exact T
      · rw [ev, hv]
    · change ¬ E 152 20 = p.1 at c
      rw [eat] at c
      rw [hv] at hx
      have hE20 := T.2.2.1
      have w1 : w32 (E 152 20 - 1) = E 152 20 - 1 := w32_id (by omega) (by omega)
      have ez : znumP t en lo hi p = ((zdg t en 3 0 p.1).2, (zdg t en 3 0 p.1).2 - 1) := by
        unfold znumP
        rw [if_pos hg, if_neg c, if_neg hx]
      rw [show mD (E, rho n1 W) 152 20 = E 152 20 from rfl, w1, eat]
      refine cV (C_mfault (pl := (zdg t en 3 0 p.1).2 - 1) (fun _ => by omega) T) ?_
      rintro m ⟨H, rfl, f2, T2⟩
      rw [if_pos rfl] at T2
      refine sg_X10_number_108 ⟨rfl, cP (C_mfine T2) ?_⟩
      have no : ¬ (zdg t en 3 0 p.1).2 - 1 = -1 := by omega
      rw [bi_0 (show ¬ ((zdg t en 3 0 p.1).2, (zdg t en 3 0 p.1).2 - 1).2 = -1 from no)]
      exact nE ⟨_, rfl, H, rfl, hE.trans f2, by rw [ez]; exact T2, fun z => absurd (by rw [ez] at z; exact z) no, by decide, fun _ => rfl⟩
    · change E 152 20 = p.1 at c
      have c2 : (zdg t en 3 0 p.1).2 = p.1 := by rw [← eat]; exact c
      have ez : znumP t en lo hi p = (p.1, p.1) := by
        unfold znumP
        rw [if_pos hg, if_pos c2]
      rw [show mD (E, rho n1 W) 152 20 = E 152 20 from rfl, c]
      refine cV (C_mfault (pl := p.1) (fun _ => by omega) T) ?_
      rintro m ⟨H, rfl, f2, T2⟩
      rw [if_pos rfl, c2] at T2
      refine sg_X10_number_108 ⟨rfl, cP (C_mfine T2) ?_⟩
      have no : ¬ p.1 = -1 := by omega
      rw [bi_0 (show ¬ (p.1, p.1).2 = -1 from no)]
      exact nE ⟨_, rfl, H, rfl, hE.trans f2, by rw [ez]; exact T2, fun z => absurd (by rw [ez] at z; exact z) no, by decide, fun _ => rfl⟩
  refine Wp.loop (σ := Int × Int) (fun z => [some (vr 152), some (vi lo), some (vi hi), some (vi p.1), some (vi z.1)])
    (fun z μ => ∃ (E : DD), μ = (E, rho n1 W) ∧ Fr mxF D E ∧ 0 ≤ z.2 ∧ z.2 ≤ 3 ∧ MxR E W t en (p.1 + z.2, -1) ∧ (0 ≤ z.1 ∧ z.1 ≤ 999) ∧ zdg t en (3 - z.2).toNat z.1 (p.1 + z.2) = zdg t en 3 0 p.1)
    (fun z => (3 - z.2).toNat) ?_ (0, 0) _ ⟨D, rfl, Fr.refl, by decide, by decide, ?_, by decide, by dsimp only; rw [Int.add_zero]; rfl⟩
  rotate_left
  · dsimp only
    rw [Int.add_zero, ← hg]
    exact h
  rintro ⟨v, g⟩ μ ⟨E, rfl, hE, g0, g1, T, hv, hz⟩ ih
  dsimp only at g0 g1 T hv hz ih ⊢
  have eat : E 152 20 = p.1 + g := (T.2.2.2.1 rfl).1
  have hp80 := h.2.2.2.2.2.2.1
  have w3 : w32 (p.1 + 3) = p.1 + 3 := w32_id (by omega) (by omega)
  have stop : zdg t en 3 0 p.1 = (v, p.1 + g) → Wp (d + 2) 0 0 mX10_number 69 [some (vr 152), some (vi lo), some (vi hi), some (vi p.1), some (vi v)] [] (E, rho n1 W) (KI (fun x m => ∃ D', m = (D', rho n1 W) ∧ Fr mxF D D' ∧ MxR D' W t en (znumP t en lo hi p) ∧ ((znumP t en lo hi p).2 = -1 → x = znumV t en lo hi p ∧ p.2 = -1 ∧ 1 ≤ D' 152 20) ∧ (0 ≤ x ∧ x ≤ 999) ∧ (¬ (znumP t en lo hi p).2 = -1 → x = 0))) := fun e => s69 E v hE (by rw [e]; exact T) (by rw [e])
  refine sg_X10_number_17 ⟨rfl, fun c => stop ?_, fun c => cP (C_mhere T) (cB C_in (fun hx => yE ⟨rfl, cP (C_mhere T) fun v1 e1 => ⟨rfl, fun m4 e4 => ?_⟩⟩) (fun hx => nE (stop ?_)))⟩
  · change w32 (p.1 + 3) ≤ E 152 20 at c
    rw [w3, eat] at c
    rw [← hz, show (3 - g).toNat = 0 by omega]
    rfl
  · change ¬ w32 (p.1 + 3) ≤ E 152 20 at c
    rw [w3, eat] at c
    rw [eat] at hx e1
    have hd : zdg t en (3 - g).toNat v (p.1 + g) = zdg t en (3 - (g + 1)).toNat (10 * v + pk t en (p.1 + g) - 48) (p.1 + g + 1) := by
      rw [show (3 - g).toNat = (3 - (g + 1)).toNat + 1 by omega]
      exact if_pos hx
    have hlt := pkc_lt (t := t) (en := en) (c := pk t en (p.1 + g)) rfl (by omega)
    have ev : v1 = 10 * v + pk t en (p.1 + g) - 48 := by
      rw [e1, w32_id (x := 10 * v) (by omega) (by omega), w32_id (x := 10 * v + _) (by omega) (by omega), w32_id (by omega) (by omega)]
    have w1 : w32 (E 152 20 + 1) = E 152 20 + 1 := w32_id (by omega) (by omega)
    have e4 : m4 = (wr E 152 20 (E 152 20 + 1), rho n1 W) := by
      rw [e4, ← w1]
      rfl
    subst e4
    have T' := mx_step T rfl hlt.2
    have hb : 0 ≤ v1 ∧ v1 ≤ 999 := by
      rw [hd, ← ev] at hz
      have := zdg_mono (t := t) (en := en) (n := (3 - (g + 1)).toNat) (v := v1) (a := p.1 + g + 1) (by omega)
      rw [hz] at this
      omega
    refine ih (v1, g + 1) _ ⟨_, rfl, hE.wr ⟨rfl, Or.inl rfl⟩, by dsimp only; omega, by dsimp only; omega, ?_, hb, ?_⟩ (by dsimp only; omega)
    · dsimp only
      rw [← Int.add_assoc]
      exact T'
    · dsimp only
      rw [← Int.add_assoc, ← hz, hd, ev]
  · rw [eat] at hx
    change ¬ w32 (p.1 + 3) ≤ E 152 20 at c
    rw [w3, eat] at c
    rw [← hz, show (3 - g).toNat = (3 - (g + 1)).toNat + 1 by omega]
    exact if_neg hx
end MTX
