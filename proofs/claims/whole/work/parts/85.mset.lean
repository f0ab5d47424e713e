/-! ===== the model's set ===== -/
section MSE
variable {d n1 : Nat} {W : Nat → Nat} {D : DD}
theorem m0 (D : DD) : ∃ E : DD, E = wr D 152 15 0 ∧ Fr (fun q j => q = 152 ∧ j = 15) D E ∧ E 152 15 = 0 ∧ mcup E = mcup D ∧ mst E = mst D := by
  have f : Fr (fun q j => q = 152 ∧ j = 15) D (wr D 152 15 0) := Fr.refl.wr ⟨rfl, rfl⟩
  exact ⟨_, rfl, f, wr_at, mcup_fr f (fun j x y => by omega) (fun q j x y => by omega), mst_fr f (by omega) (by omega) (fun q j x y => by omega)⟩
theorem C_mset {a v : Int} : Cl (d + 1) 0 0 mX10_set [vr 152, vi a, vi v] (D, rho n1 W) (KI (fun r m => ∃ D', m = (D', rho n1 W) ∧ Fr (fun q j => q = 153 ∨ (q = 152 ∧ j = 15)) D D' ∧ D' 152 15 = 0 ∧ ((((0 ≤ a ∧ a ≤ 6) ∧ (zlo a ≤ v ∧ v ≤ zhi a)) ∧ r = cSet (mcup D) a ∧ mcup D' = zSet (mcup D) a v) ∨ (¬ ((0 ≤ a ∧ a ≤ 6) ∧ (zlo a ≤ v ∧ v ≤ zhi a)) ∧ r = -1 ∧ mcup D' = mcup D)))) := by
  refine Cl_of mb_X10_set (Nat.le_of_ble_eq_true rfl) (sg_X10_set_0 ⟨rfl, fun m1 e1 => ?_⟩)
  obtain ⟨E, hE, fE, a15, cE, sE⟩ := m0 D
  have e1 : m1 = (E, rho n1 W) := by rw [hE]; exact e1
  subst e1
  have mE : Fr (fun q j => q = 153 ∨ (q = 152 ∧ j = 15)) D E := fE.mono (fun q j z => Or.inr z)
  have fin : ∀ v1, (hx : 0 ≤ a ∧ a ≤ 6) → (zlo a ≤ v ∧ v ≤ zhi a) → v1 = mD (E, rho n1 W) 153 a → ∀ m4, m4 = sD (E, rho n1 W) 153 a v → KI (fun r m => ∃ D', m = (D', rho n1 W) ∧ Fr (fun q j => q = 153 ∨ (q = 152 ∧ j = 15)) D D' ∧ D' 152 15 = 0 ∧ ((((0 ≤ a ∧ a ≤ 6) ∧ (zlo a ≤ v ∧ v ≤ zhi a)) ∧ r = cSet (mcup D) a ∧ mcup D' = zSet (mcup D) a v) ∨ (¬ ((0 ≤ a ∧ a ≤ 6) ∧ (zlo a ≤ v ∧ v ≤ zhi a)) ∧ r = -1 ∧ mcup D' = mcup D))) (some (some (vi v1))) m4 := by
    intro v1 hx hy ev m4 e4
    have e4 : m4 = (wr E 153 a v, rho n1 W) := e4
    subst e4
    refine ⟨_, rfl, _, rfl, mE.wr (Or.inl rfl), by rw [wr_o (by decide), a15], Or.inl ⟨⟨hx, hy⟩, ?_, ?_⟩⟩
    · rw [ev, ← cE]
      exact (cut_in hx.1 (by omega)).symm
    · rw [← cE]
      unfold mcup zSet
      rw [wr_o (o := 152) (by decide), wr_o (o := 154) (by decide), wr_A, cut_zu hx.1 (by omega)]
      rfl
  have bad : ¬ ((0 ≤ a ∧ a ≤ 6) ∧ (zlo a ≤ v ∧ v ≤ zhi a)) → KI (fun r m => ∃ D', m = (D', rho n1 W) ∧ Fr (fun q j => q = 153 ∨ (q = 152 ∧ j = 15)) D D' ∧ D' 152 15 = 0 ∧ ((((0 ≤ a ∧ a ≤ 6) ∧ (zlo a ≤ v ∧ v ≤ zhi a)) ∧ r = cSet (mcup D) a ∧ mcup D' = zSet (mcup D) a v) ∨ (¬ ((0 ≤ a ∧ a ≤ 6) ∧ (zlo a ≤ v ∧ v ≤ zhi a)) ∧ r = -1 ∧ mcup D' = mcup D))) (some (some (vi (-1)))) (E, rho n1 W) := fun hn => ⟨_, rfl, E, rfl, mE, a15, Or.inr ⟨hn, rfl, cE⟩⟩
  refine ⟨fun n0 => ⟨fun _ => ⟨fun n1 => ⟨fun n2 => ⟨fun n4 => ⟨fun n6 => ?_, fun e6 => ?_⟩, fun e4 => ?_⟩, fun e2 => ?_⟩, fun e1 => ?_⟩, fun e0 => absurd e0 n0⟩, fun e0 => ⟨fun n => absurd e0 n, fun _ => ?_⟩⟩
  all_goals
    refine cB C_in (fun hx => yE (cB C_in (fun hy => yN ⟨rfl, Or.inl rfl, bnd (N := 7) rfl hx.1 (by omega), fun v1 ev => ⟨rfl, bnd (N := 7) rfl hx.1 (by omega), fin v1 hx ?_ ev⟩⟩) (fun hy => nN (bad (fun q => hy ?_))))) (fun hx => nE (bad (fun q => hx q.1)))
    · unfold zlo zhi
      (repeat' split) <;> omega
    · have q2 := q.2
      unfold zlo zhi at q2
      (repeat' split at q2) <;> omega
end MSE
