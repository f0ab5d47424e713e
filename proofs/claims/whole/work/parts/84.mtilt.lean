/-! ===== the model's tilt ===== -/
section MTI
variable {d n1 : Nat} {W : Nat → Nat} {D : DD}
/-- the flows behind the last cell are 0, in both rows -/
def MF0 (D : DD) : Prop := ∀ r, r = 0 ∨ r = 1 → ∀ k, D 152 0 ≤ k → k < 20 → D 156 (20 * r + k) = 0
theorem C_mtilt {r tilt : Int} (l0 : 2 ≤ D 152 0) (l1 : D 152 0 ≤ 20) (hrim : 0 ≤ D 152 1) (hf : MF0 D) : Cl (d + 2) 0 0 mX10_tilt [vr 152, vi r, vi tilt] (D, rho n1 W) (KI (fun x m => ∃ D', m = (D', rho n1 W) ∧ Fr (fun q j => mlF r q j ∨ (q = 152 ∧ j = 15)) D D' ∧ D' 152 15 = 0 ∧ (((0 ≤ r ∧ r ≤ 1) ∧ (-500 ≤ tilt ∧ tilt ≤ 500)) ∧ x = 1 ∧ mst D' = zTilt (mcup D) (mst D) r tilt ∨ ¬ ((0 ≤ r ∧ r ≤ 1) ∧ (-500 ≤ tilt ∧ tilt ≤ 500)) ∧ x = 0 ∧ mst D' = mst D))) := by
  refine Cl_of mb_X10_tilt (Nat.le_of_ble_eq_true rfl) (sg_X10_tilt_0 ⟨rfl, fun m1 e1 => ?_⟩)
  obtain ⟨E, hE⟩ : ∃ E, E = wr D 152 15 0 := ⟨_, rfl⟩
  have e1 : m1 = (E, rho n1 W) := by rw [hE]; exact e1
  subst e1
  have fE : Fr (fun q j => q = 152 ∧ j = 15) D E := by
    rw [hE]
    exact Fr.refl.wr ⟨rfl, rfl⟩
  have a15 : E 152 15 = 0 := by rw [hE, wr_at]
  have mE : Fr (fun q j => mlF r q j ∨ (q = 152 ∧ j = 15)) D E := fE.mono (fun q j z => Or.inr z)
  have cE : mcup E = mcup D := mcup_fr fE (fun j x y => by omega) (fun q j x y => by omega)
  have sE : mst E = mst D := mst_fr fE (by omega) (by omega) (fun q j x y => by omega)
  have a0 : E 152 0 = D 152 0 := fE 152 0 (by omega)
  have a1 : E 152 1 = D 152 1 := fE 152 1 (by omega)
  refine cB C_in (fun hx => yE (cB C_in (fun hy => yN ⟨rfl, cV (C_mlean (D := E) (r := r) (tilt := tilt) (by omega) (by omega) (by omega) (by omega) (fun k a b => ?_)) ?_⟩) (fun hy => nN ⟨_, rfl, E, rfl, mE, a15, Or.inr ⟨fun q => hy q.2, rfl, sE⟩⟩))) (fun hx => nE ⟨_, rfl, E, rfl, mE, a15, Or.inr ⟨fun q => hx q.1, rfl, sE⟩⟩)
  · rw [fE 156 _ (by omega)]
    exact hf r (by omega) k (by omega) b
  · rintro m ⟨G, rfl, f, h⟩
    refine ⟨_, rfl, G, rfl, mE.trans (f.mono (fun q j z => Or.inl z)), by rw [f 152 15 (by unfold mlF; omega), a15], Or.inl ⟨⟨hx, hy⟩, rfl, ?_⟩⟩
    have other : ∀ s, s = 0 ∨ s = 1 → s ≠ r → mrow G s = mrow E s := fun s hs ne => by
      unfold mrow
      rw [cut_ext (f := fun k => G 155 (20 * s + k)) (g := fun k => E 155 (20 * s + k)) (fun k a b => f 155 _ (by unfold mlF; omega)), cut_ext (f := fun k => G 156 (20 * s + k)) (g := fun k => E 156 (20 * s + k)) (fun k a b => f 156 _ (by unfold mlF; omega)), f 157 s (by unfold mlF; omega)]
    have p5 : G 152 5 = E 152 5 := f 152 5 (by unfold mlF; omega)
    have p10 : G 152 10 = E 152 10 := f 152 10 (by unfold mlF; omega)
    have p155 : G 158 = E 158 := f.obj (fun j => by unfold mlF; omega)
    rw [← sE, ← cE]
    unfold zTilt mst
    rw [p5, p10, p155]
    by_cases z : r = 0
    · rw [if_pos z]
      subst z
      rw [h, other 1 (Or.inr rfl) (by decide)]
      rfl
    · have z1 : r = 1 := by omega
      rw [if_neg z]
      subst z1
      rw [h, other 0 (Or.inl rfl) (by decide)]
      rfl
end MTI
