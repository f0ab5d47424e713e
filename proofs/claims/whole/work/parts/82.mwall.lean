/-! ===== the model's wall ===== -/
section MWA
variable {d n1 : Nat} {W : Nat → Nat} {D : DD}
theorem C_misGap {g : Int} (l0 : 2 ≤ D 152 0) (l1 : D 152 0 ≤ 20) : Cl (d + 1) 0 0 mX10_isGap [vr 152, vi g] (D, rho n1 W) (KI (fun r m => r = bi (0 ≤ g ∧ g ≤ cLast (mcup D) - 1) ∧ m = (D, rho n1 W))) := by
  have e : w32 (D 152 0 - 2) = cLast (mcup D) - 1 := by
    rw [w32_id (by omega) (by omega)]
    show _ = D 152 0 - 1 - 1
    omega
  refine Cl_of mb_X10_isGap (Nat.le_of_ble_eq_true rfl) (sg_X10_isGap_0 ⟨rfl, ?_⟩)
  rw [show mD (D, rho n1 W) 152 0 = D 152 0 from rfl, e]
  exact cP C_in ⟨bi_or, _, rfl, rfl, rfl⟩
theorem C_mwall {g v : Int} (l0 : 2 ≤ D 152 0) (l1 : D 152 0 ≤ 20) : Cl (d + 2) 0 0 mX10_wall [vr 152, vi g, vi v] (D, rho n1 W) (KI (fun r m => ∃ D', m = (D', rho n1 W) ∧ Fr (fun q j => q = 154 ∨ (q = 152 ∧ j = 15)) D D' ∧ D' 152 15 = 0 ∧ ((((0 ≤ g ∧ g ≤ cLast (mcup D) - 1) ∧ (0 ≤ v ∧ v ≤ 100)) ∧ r = cHole (mcup D) g ∧ mcup D' = zHole (mcup D) g v) ∨ (¬ ((0 ≤ g ∧ g ≤ cLast (mcup D) - 1) ∧ (0 ≤ v ∧ v ≤ 100)) ∧ r = -1 ∧ mcup D' = mcup D)))) := by
  refine Cl_of mb_X10_wall (Nat.le_of_ble_eq_true rfl) (sg_X10_wall_0 ⟨rfl, fun m1 e1 => ?_⟩)
  obtain ⟨E, hE⟩ : ∃ E, E = wr D 152 15 0 := ⟨_, rfl⟩
  have e1 : m1 = (E, rho n1 W) := by rw [hE]; exact e1
  subst e1
  have fE : Fr (fun q j => q = 152 ∧ j = 15) D E := by
    rw [hE]
    exact Fr.refl.wr ⟨rfl, rfl⟩
  have a15 : E 152 15 = 0 := by rw [hE, wr_at]
  have mE : Fr (fun q j => q = 154 ∨ (q = 152 ∧ j = 15)) D E := fE.mono (fun q j z => Or.inr z)
  have cE : mcup E = mcup D := mcup_fr fE (fun j x y => by omega) (fun q j x y => by omega)
  have a0 : E 152 0 = D 152 0 := fE 152 0 (by omega)
  have hc : cLast (mcup D) = D 152 0 - 1 := rfl
  refine cB (C_misGap (D := E) (by omega) (by omega)) (fun hx => yE (cB C_in (fun hy => yN ⟨rfl, Or.inl rfl, ?_⟩) (fun hy => nN ⟨_, rfl, E, rfl, mE, a15, Or.inr ⟨fun q => hy q.2, rfl, cE⟩⟩))) (fun hx => nE ⟨_, rfl, E, rfl, mE, a15, Or.inr ⟨fun q => hx (by rw [cE]; exact q.1), rfl, cE⟩⟩)
  rw [cE] at hx
  refine ⟨bnd (N := 20) rfl hx.1 (by show g < 20; omega), fun v1 ev => ⟨rfl, bnd (N := 20) rfl hx.1 (by show g < 20; omega), fun m4 e4 => ?_⟩⟩
  have e4 : m4 = (wr E 154 g v, rho n1 W) := e4
  subst e4
  refine ⟨_, rfl, _, rfl, mE.wr (Or.inl rfl), by rw [wr_o (by decide), a15], Or.inl ⟨⟨hx, hy⟩, ?_, ?_⟩⟩
  · rw [ev, ← cE]
    exact (cut_in hx.1 (by omega)).symm
  · rw [← cE]
    unfold mcup zHole
    rw [wr_o (o := 152) (by decide), wr_o (o := 153) (by decide), wr_A, cut_zu hx.1 (by omega)]
    rfl
end MWA
