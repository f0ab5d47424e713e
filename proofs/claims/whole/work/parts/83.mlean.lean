/-! ===== the model leans ===== -/
def mlF (r : Int) (q : Nat) (j : Int) : Prop := (q = 155 ∨ q = 156) ∧ 20 * r ≤ j ∧ j < 20 * r + 20
section MLE
variable {d n1 : Nat} {W : Nat → Nat} {D : DD}
theorem C_mlean {r tilt : Int} (hr : r = 0 ∨ r = 1) (l0 : 2 ≤ D 152 0) (l1 : D 152 0 ≤ 20) (hrim : 0 ≤ D 152 1) (hf : ∀ k, D 152 0 ≤ k → k < 20 → D 156 (20 * r + k) = 0) : Cl (d + 1) 0 0 mX10_lean [vr 152, vi r, vi tilt] (D, rho n1 W) (KV (fun m => ∃ D', m = (D', rho n1 W) ∧ Fr (mlF r) D D' ∧ mrow D' r = zleanr (mcup D) tilt (mrow D r))) := by
  refine Cl_of mb_X10_lean (Nat.le_of_ble_eq_true rfl) (sg_X10_lean_0 ?_)
  refine Wp.loop (σ := Int) (fun i => [some (vr 152), some (vi r), some (vi tilt), some (vi i), none])
    (fun i μ => ∃ H : DD, μ = (H, rho n1 W) ∧ Fr (mlF r) D H ∧ 0 ≤ i ∧ i ≤ D 152 0 ∧ (∀ k, 0 ≤ k → k < i → H 155 (20 * r + k) = zlean (mcup D) tilt (fun _ => 0) k ∧ H 156 (20 * r + k) = 0) ∧ (∀ k, i ≤ k → k < 20 → H 155 (20 * r + k) = D 155 (20 * r + k) ∧ H 156 (20 * r + k) = D 156 (20 * r + k)))
    (fun i => (D 152 0 - i).toNat) ?_ 0 _ ⟨D, rfl, Fr.refl, by decide, by omega, fun k a b => by omega, fun k a b => ⟨rfl, rfl⟩⟩
  rintro i μ ⟨H, rfl, hH, i0, i1, hc, hn⟩ ih
  have g0 : H 152 0 = D 152 0 := hH 152 0 (by unfold mlF; omega)
  have g1 : H 152 1 = D 152 1 := hH 152 1 (by unfold mlF; omega)
  have g2 : H 152 2 = D 152 2 := hH 152 2 (by unfold mlF; omega)
  have hcl : cLast (mcup D) = D 152 0 - 1 := rfl
  have w1 : w32 (H 152 0 - 1) = cLast (mcup D) := by rw [g0, hcl]; exact w32_id (by omega) (by omega)
  have wx : w32 (w32 (20 * r) + i) = 20 * r + i := by rw [w32_id (x := 20 * r) (by omega) (by omega), w32_id (by omega) (by omega)]
  refine sg_X10_lean_2 ⟨rfl, fun c => ⟨rfl, H, rfl, hH, ?_⟩, fun c => ⟨?_, fun v1 ev => ?_⟩⟩
  · have c : H 152 0 ≤ i := c
    have ei : i = D 152 0 := by omega
    have h54 : H 157 r = D 157 r := hH 157 r (by unfold mlF; omega)
    unfold zleanr mrow
    rw [h54, zlean_cut (by omega)]
    have e1 : cut 20 (fun k => H 155 (20 * r + k)) = cut 20 (zlean (mcup D) tilt (fun k => D 155 (20 * r + k))) := cut_ext (fun k a b => by
      by_cases q : k < i
      · rw [(hc k a q).1]
        unfold zlean
        rw [if_pos (by omega), if_pos (by omega)]
      · rw [(hn k (by omega) b).1]
        unfold zlean
        rw [if_neg (by omega)])
    have e2 : cut 20 (fun k => H 156 (20 * r + k)) = cut 20 (fun _ => 0) := cut_ext (fun k a b => by
      by_cases q : k < i
      · exact (hc k a q).2
      · rw [(hn k (by omega) b).2]
        exact hf k (by omega) b)
    rw [e1, e2]
  · show w32 (H 152 0 - 1) ≠ 0
    rw [w1]
    omega
  · have c : ¬ H 152 0 ≤ i := c
    have c : i < D 152 0 := by omega
    have ev : v1 = w32 (cFill (mcup D) + w32 ((w32 (tilt * w32 (cLast (mcup D) - w32 (2 * i)))).tdiv (cLast (mcup D)))) := by
      rw [ev]
      show w32 (H 152 2 + w32 ((w32 (tilt * w32 (w32 (H 152 0 - 1) - w32 (2 * i)))).tdiv (w32 (H 152 0 - 1)))) = _
      rw [w1, g2]
      rfl
    have ez : max 0 (min (D 152 1) v1) = zlean (mcup D) tilt (fun _ => 0) i := by
      unfold zlean
      rw [if_pos (by omega), ← ev]
      show _ = btw v1 0 (D 152 1)
      unfold btw
      omega
    rw [show mD (H, rho n1 W) 152 1 = D 152 1 from g1]
    refine cP C_min (cP C_max ⟨rfl, ?_⟩)
    rw [wx, ez]
    refine ⟨bnd (N := 40) rfl (by omega) (by show 20 * r + i < 40; omega), fun m3 e3 => ?_⟩
    have e3 : m3 = (wr H 155 (20 * r + i) (zlean (mcup D) tilt (fun _ => 0) i), rho n1 W) := e3
    subst e3
    refine ⟨rfl, rfl, bnd (N := 40) rfl (by omega) (by show 20 * r + i < 40; omega), fun m4 e4 z ez2 => ?_⟩
    have e4 : m4 = (wr (wr H 155 (20 * r + i) (zlean (mcup D) tilt (fun _ => 0) i)) 156 (20 * r + i) 0, rho n1 W) := e4
    subst e4
    rw [w32_id (by omega) (by omega)] at ez2
    subst ez2
    refine ih (i + 1) _ ⟨_, rfl, (hH.wr ⟨Or.inl rfl, by omega, by omega⟩).wr ⟨Or.inr rfl, by omega, by omega⟩, by omega, by omega, fun k a b => ?_, fun k a b => ?_⟩ (by omega)
    · by_cases q : k = i
      · rw [q]
        exact ⟨by rw [wr_o (by decide), wr_at], wr_at⟩
      · rw [wr_o (o := 155) (by decide), wr_j (by omega), wr_j (by omega), wr_o (o := 156) (by decide)]
        exact hc k a (by omega)
    · rw [wr_o (o := 155) (by decide), wr_j (by omega), wr_j (by omega), wr_o (o := 156) (by decide)]
      exact hn k (by omega) b
end MLE
