/-! ===== the model's cup and state ===== -/
def mcup (D : DD) : Cv := (D 152 0 - 1, D 152 1, D 152 2, cut 7 (D 153), cut 20 (D 154))
def mrow (D : DD) (r : Int) : Rv := (cut 20 (fun k => D 155 (20 * r + k)), cut 20 (fun k => D 156 (20 * r + k)), D 157 r)
def mst (D : DD) : Sv := (D 152 5, D 152 10, mrow D 0, mrow D 1, cut 21 (D 158))
def mbF (q : Nat) (j : Int) : Prop := (q = 152 ∧ j = 5) ∨ (155 ≤ q ∧ q ≤ 157)
section MST
variable {d n1 : Nat} {W : Nat → Nat} {D : DD}
theorem C_mbegin : Cl d 0 0 mX10_begin [vr 152] (D, rho n1 W) (KV (fun m => ∃ D', m = (D', rho n1 W) ∧ Fr mbF D D' ∧ mst D' = zfresh (mcup D) (mst D))) := by
  refine Cl_of mb_X10_begin (Nat.le_of_ble_eq_true rfl) (sg_X10_begin_0 ⟨rfl, fun m1 e1 => ?_⟩)
  obtain ⟨E, hE⟩ : ∃ E, E = wr D 152 5 0 := ⟨_, rfl⟩
  have e1 : m1 = (E, rho n1 W) := by rw [hE]; exact e1
  subst e1
  have fE : Fr (fun q j => q = 152 ∧ j = 5) D E := by
    rw [hE]
    exact Fr.refl.wr ⟨rfl, rfl⟩
  have a5 : E 152 5 = 0 := by rw [hE, wr_at]
  have a2 : E 152 2 = D 152 2 := fE 152 2 (by omega)
  refine Wp.loop (σ := Int) (fun i => [some (vr 152), some (vi i)])
    (fun i μ => ∃ H : DD, μ = (H, rho n1 W) ∧ Fr (fun q _ => q = 155 ∨ q = 156) E H ∧ 0 ≤ i ∧ i ≤ 40 ∧ ∀ k, 0 ≤ k → k < i → H 155 k = D 152 2 ∧ H 156 k = 0)
    (fun i => (40 - i).toNat) ?_ 0 _ ⟨E, rfl, Fr.refl, by decide, by decide, fun k a b => by omega⟩
  rintro i μ ⟨H, rfl, hH, i0, i1, hc⟩ ih
  refine sg_X10_begin_7 ⟨fun c => ⟨rfl, rfl, bnd (N := 2) rfl (by decide) (by decide), fun m2 e2 => ?_⟩, fun c => ⟨rfl, rfl, bnd (N := 40) rfl i0 (by omega), fun m3 e3 => ?_⟩⟩
  · have e2 : m2 = (wr H 157 0 0, rho n1 W) := e2
    subst e2
    refine ⟨bnd (N := 2) rfl (by decide) (by decide), fun m3 e3 => ?_⟩
    obtain ⟨B, hB⟩ : ∃ B, B = wr (wr H 157 0 0) 157 1 0 := ⟨_, rfl⟩
    have e3 : m3 = (B, rho n1 W) := by rw [hB]; exact e3
    subst e3
    have fB : Fr (fun q _ => q = 157) H B := by
      rw [hB]
      exact (Fr.refl.wr rfl).wr rfl
    have b0 : B 157 0 = 0 := by rw [hB, wr_j (by decide), wr_at]
    have b1 : B 157 1 = 0 := by rw [hB, wr_at]
    have bh : ∀ k, 0 ≤ k → k < 40 → B 155 k = D 152 2 ∧ B 156 k = 0 := fun k a b => by
      rw [fB 155 k (by omega), fB 156 k (by omega)]
      exact hc k a (by omega)
    refine ⟨rfl, B, rfl, ?_, ?_⟩
    · exact ((fE.mono (fun q j z => by unfold mbF; omega)).trans (hH.mono (fun q j z => by unfold mbF; omega))).trans (fB.mono (fun q j z => by unfold mbF; omega))
    · have p5 : B 152 5 = 0 := by rw [fB 152 5 (by omega), hH 152 5 (by omega), a5]
      have p10 : B 152 10 = D 152 10 := by rw [fB 152 10 (by omega), hH 152 10 (by omega), fE 152 10 (by omega)]
      have p155 : B 158 = D 158 := by
        funext j
        rw [fB 158 j (by omega), hH 158 j (by omega), fE 158 j (by omega)]
      have row : ∀ r, r = 0 ∨ r = 1 → mrow B r = zfr (D 152 2) := fun r hr => by
        unfold mrow zfr
        rw [cut_ext (f := fun k => B 155 (20 * r + k)) (g := fun _ => D 152 2) (fun k a b => (bh (20 * r + k) (by omega) (by omega)).1), cut_ext (f := fun k => B 156 (20 * r + k)) (g := fun _ => 0) (fun k a b => (bh (20 * r + k) (by omega) (by omega)).2)]
        rcases hr with z | z
        · rw [z, b0]
        · rw [z, b1]
      unfold mst zfresh
      rw [row 0 (Or.inl rfl), row 1 (Or.inr rfl), p5, p10, p155]
      rfl
  · have e3 : m3 = (wr H 155 i (H 152 2), rho n1 W) := e3
    subst e3
    refine ⟨rfl, bnd (N := 40) rfl i0 (by omega), fun m4 e4 z ez => ?_⟩
    have e4 : m4 = (wr (wr H 155 i (H 152 2)) 156 i 0, rho n1 W) := e4
    subst e4
    rw [w32_id (by omega) (by omega)] at ez
    subst ez
    have h2 : H 152 2 = D 152 2 := by rw [hH 152 2 (by omega), a2]
    refine ih (i + 1) _ ⟨_, rfl, (hH.wr (Or.inl rfl)).wr (Or.inr rfl), by omega, by omega, fun k a b => ?_⟩ (by omega)
    by_cases y : k = i
    · rw [y]
      exact ⟨by rw [wr_o (by decide), wr_at, h2], by rw [wr_at]⟩
    · rw [wr_o (o := 155) (by decide), wr_j y, wr_j y, wr_o (o := 156) (by decide)]
      exact hc k a (by omega)
theorem C_mfresh : Cl (d + 1) 0 0 mX10_fresh [vr 152] (D, rho n1 W) (KI (fun r m => ∃ D', m = (D', rho n1 W) ∧ Fr (fun q j => mbF q j ∨ (q = 152 ∧ j = 15)) D D' ∧ D' 152 15 = 0 ∧ r = sTick (mst D) ∧ mst D' = zfresh (mcup D) (mst D))) := by
  refine Cl_of mb_X10_fresh (Nat.le_of_ble_eq_true rfl) (sg_X10_fresh_0 ⟨rfl, fun m1 e1 v1 ev => ?_⟩)
  have e1 : m1 = (wr D 152 15 0, rho n1 W) := e1
  subst e1
  refine cV (C_mbegin (D := wr D 152 15 0)) ?_
  rintro m ⟨G, rfl, f, h⟩
  have fE : Fr (fun q j => q = 152 ∧ j = 15) D (wr D 152 15 0) := Fr.refl.wr ⟨rfl, rfl⟩
  have ev : v1 = D 152 5 := by rw [ev]; exact fE 152 5 (by omega)
  have ec : mcup (wr D 152 15 0) = mcup D := by
    unfold mcup
    rw [fE 152 0 (by omega), fE 152 1 (by omega), fE 152 2 (by omega), fE.obj (o := 153) (fun j => by omega), fE.obj (o := 154) (fun j => by omega)]
  have es : mst (wr D 152 15 0) = mst D := by
    unfold mst mrow
    rw [fE 152 5 (by omega), fE 152 10 (by omega), fE.obj (o := 155) (fun j => by omega), fE.obj (o := 156) (fun j => by omega), fE.obj (o := 157) (fun j => by omega), fE.obj (o := 158) (fun j => by omega)]
  exact ⟨_, rfl, G, rfl, (fE.mono (fun q j z => Or.inr z)).trans (f.mono (fun q j z => Or.inl z)), by rw [f 152 15 (by unfold mbF; omega), wr_at], ev, by rw [h, ec, es]⟩
end MST
