/-! ===== the model's sign, end, isLaw, isWalk ===== -/
def msF (q : Nat) (j : Int) : Prop := (q = 152 ∧ (j = 12 ∨ j = 15)) ∨ q = 159
section MSG
variable {d n1 : Nat} {W : Nat → Nat} {D : DD}
theorem C_misWalk {x : Int} {μ : Mem} : Cl (d + 1) 0 0 mX10_isWalk [vi x] μ (KI (fun r m => r = bi (0 ≤ x ∧ x ≤ 3) ∧ m = μ)) :=
  Cl_of mb_X10_isWalk (Nat.le_of_ble_eq_true rfl) (sg_X10_isWalk_0 (cP C_in ⟨bi_or, _, rfl, rfl, rfl⟩))
theorem C_misLaw {i : Int} : Cl (d + 1) 0 0 mX10_isLaw [vr 152, vi i] (D, rho n1 W) (KI (fun r m => r = bi ((0 ≤ i ∧ i ≤ 2) ∧ 1 ≤ D 175 i) ∧ m = (D, rho n1 W))) := by
  refine Cl_of mb_X10_isLaw (Nat.le_of_ble_eq_true rfl) (sg_X10_isLaw_0 (cB C_in (fun hi => yE ⟨rfl, Or.inl rfl, bnd (N := 3) rfl hi.1 (by omega), fun c => ⟨_, rfl, (bi_0 (fun z => ?_)).symm, rfl⟩, fun c => ⟨_, rfl, (bi_1 ⟨hi, ?_⟩).symm, rfl⟩⟩) (fun hi => nE ⟨_, rfl, (bi_0 (fun z => hi z.1)).symm, rfl⟩)))
  · have c : D 175 i ≤ 0 := c
    omega
  · have c : ¬ D 175 i ≤ 0 := c
    omega
theorem C_mend {n : Int} : Cl (d + 1) 0 0 mX10_end [vr 152, vi n] (D, rho n1 W) (KI (fun r m => ∃ D', m = (D', rho n1 W) ∧ Fr (fun q j => q = 152 ∧ (j = 12 ∨ j = 15)) D D' ∧ D' 152 15 = 0 ∧ ((0 ≤ n ∧ n ≤ D 152 12) ∧ r = 1 ∧ D' 152 12 = n ∨ ¬ (0 ≤ n ∧ n ≤ D 152 12) ∧ r = 0 ∧ D' 152 12 = D 152 12))) := by
  refine Cl_of mb_X10_end (Nat.le_of_ble_eq_true rfl) (sg_X10_end_0 ⟨rfl, fun m1 e1 => ?_⟩)
  have e1 : m1 = (wr D 152 15 0, rho n1 W) := e1
  subst e1
  have e12 : mD (wr D 152 15 0, rho n1 W) 152 12 = D 152 12 := by show wr D 152 15 0 152 12 = _; rw [wr_j (by decide)]
  rw [e12]
  refine cB C_in (fun hx => yN ⟨rfl, fun m3 e3 => ?_⟩) (fun hx => nN ⟨_, rfl, _, rfl, Fr.refl.wr ⟨rfl, Or.inr rfl⟩, wr_at, Or.inr ⟨hx, rfl, e12⟩⟩)
  have e3 : m3 = (wr (wr D 152 15 0) 152 12 n, rho n1 W) := e3
  subst e3
  exact ⟨_, rfl, _, rfl, (Fr.refl.wr ⟨rfl, Or.inr rfl⟩).wr ⟨rfl, Or.inl rfl⟩, by rw [wr_j (by decide), wr_at], Or.inl ⟨hx, rfl, wr_at⟩⟩
theorem C_msign {v : Int} (h0 : 0 ≤ D 152 12) (h1 : D 152 12 ≤ 80) : Cl d 0 0 mX10_sign [vr 152, vi v] (D, rho n1 W) (KI (fun r m => ∃ D', m = (D', rho n1 W) ∧ D' 152 15 = 0 ∧
    (D 152 12 + 4 ≤ 80 ∧ r = D 152 12 + 4 ∧ D' 152 12 = D 152 12 + 4 ∧ Fr msF D D' ∧ (∀ k, k < D 152 12 → D' 159 k = D 159 k) ∧ (∀ q, 0 ≤ q → q < 4 → D' 159 (D 152 12 + q) = w8 (w8 (bShr v (24 - 8 * q)))) ∨
     ¬ D 152 12 + 4 ≤ 80 ∧ r = -1 ∧ Fr (fun q j => q = 152 ∧ j = 15) D D'))) := by
  have w4 : w32 (D 152 12 + 4) = D 152 12 + 4 := w32_id (by omega) (by omega)
  refine Cl_of mb_X10_sign (Nat.le_of_ble_eq_true rfl) (sg_X10_sign_0 ⟨rfl, fun m1 e1 => ?_⟩)
  obtain ⟨E, hE⟩ : ∃ E, E = wr D 152 15 0 := ⟨_, rfl⟩
  have e1 : m1 = (E, rho n1 W) := by rw [hE]; exact e1
  subst e1
  have fE : Fr (fun q j => q = 152 ∧ j = 15) D E := by
    rw [hE]
    exact Fr.refl.wr ⟨rfl, rfl⟩
  have a15 : E 152 15 = 0 := by rw [hE, wr_at]
  have a12 : E 152 12 = D 152 12 := fE 152 12 (by omega)
  rw [show mD (E, rho n1 W) 152 12 = D 152 12 from a12, w4]
  refine ⟨fun c => ?_, fun c => ⟨_, rfl, E, rfl, a15, Or.inr ⟨c, rfl, fE⟩⟩⟩
  refine Wp.loop (σ := Int) (fun k => [some (vr 152), some (vi v), some (vi k)])
    (fun k μ => ∃ H : DD, μ = (H, rho n1 W) ∧ Fr (fun q j => (q = 152 ∧ j = 12) ∨ q = 159) E H ∧ -1 ≤ k ∧ k ≤ 3 ∧ H 152 12 = D 152 12 + (3 - k) ∧ (∀ j, j < D 152 12 → H 159 j = D 159 j) ∧ (∀ q, 0 ≤ q → q < 3 - k → H 159 (D 152 12 + q) = w8 (w8 (bShr v (24 - 8 * q)))))
    (fun k => (k + 1).toNat) ?_ 3 _ ⟨E, rfl, Fr.refl, by decide, by decide, by omega, fun j a => fE 159 j (by omega), fun q a b => by omega⟩
  rintro k μ ⟨H, rfl, hH, k0, k1, h12, hp, hc⟩ ih
  refine sg_X10_sign_20 ⟨fun c2 => ⟨rfl, _, rfl, H, rfl, by rw [hH 152 15 (by omega), a15], Or.inl ⟨c, ?_, by omega, ?_, hp, fun q a b => hc q a (by omega)⟩⟩, fun c2 => ⟨rfl, fun m1 e1 => ?_⟩⟩
  · show H 152 12 = _
    omega
  · exact (fE.mono (fun q j z => by unfold msF; omega)).trans (hH.mono (fun q j z => by unfold msF; omega))
  · have w1 : w32 (H 152 12 + 1) = H 152 12 + 1 := w32_id (by omega) (by omega)
    have e1 : m1 = (wr H 152 12 (H 152 12 + 1), rho n1 W) := by
      rw [e1, show mD (H, rho n1 W) 152 12 = H 152 12 from rfl, w1]
      rfl
    subst e1
    refine ⟨rfl, bnd (N := 80) rfl (by show 0 ≤ H 152 12; omega) (by show H 152 12 < 80; omega), fun m2 e2 z ez => ?_⟩
    rw [w32_id (x := 8 * k) (by omega) (by omega)] at e2
    have e2 : m2 = (wr (wr H 152 12 (H 152 12 + 1)) 159 (H 152 12) (w8 (w8 (bShr v (8 * k)))), rho n1 W) := e2
    subst e2
    rw [w32_id (by omega) (by omega)] at ez
    subst ez
    refine ih (k + -1) _ ⟨_, rfl, (hH.wr (Or.inl ⟨rfl, rfl⟩)).wr (Or.inr rfl), by omega, by omega, by rw [wr_o (by decide), wr_at]; omega, fun j a => ?_, fun q a b => ?_⟩ (by omega)
    · rw [wr_j (by omega), wr_o (by decide)]
      exact hp j a
    · by_cases y : q = 3 - k
      · rw [show D 152 12 + q = H 152 12 by omega, wr_at, show 24 - 8 * q = 8 * k by omega]
      · rw [wr_j (by omega), wr_o (by decide)]
        exact hc q a (by omega)
end MSG
