/-! ===== the model's cup, wall, seed ===== -/
def mcF (q : Nat) (j : Int) : Prop := (q = 152 ∧ (j = 0 ∨ j = 1 ∨ j = 2 ∨ j = 5 ∨ j = 15 ∨ j = 16)) ∨ (154 ≤ q ∧ q ≤ 157)
section MCU
variable {d n1 : Nat} {W : Nat → Nat} {D : DD}
theorem mcup_fr {D' : DD} {F : Nat → Int → Prop} (f : Fr F D D') (n : ∀ j, 0 ≤ j → j ≤ 2 → ¬ F 152 j) (n2 : ∀ q j, 153 ≤ q → q ≤ 154 → ¬ F q j) : mcup D' = mcup D := by
  unfold mcup
  rw [f 152 0 (n 0 (by decide) (by decide)), f 152 1 (n 1 (by decide) (by decide)), f 152 2 (n 2 (by decide) (by decide)), f.obj (o := 153) (fun j => n2 _ j (by decide) (by decide)), f.obj (o := 154) (fun j => n2 _ j (by decide) (by decide))]
theorem mst_fr {D' : DD} {F : Nat → Int → Prop} (f : Fr F D D') (n : ¬ F 152 5) (n1 : ¬ F 152 10) (n2 : ∀ q j, 155 ≤ q → q ≤ 158 → ¬ F q j) : mst D' = mst D := by
  unfold mst mrow
  rw [f 152 5 n, f 152 10 n1, f.obj (o := 155) (fun j => n2 _ j (by decide) (by decide)), f.obj (o := 156) (fun j => n2 _ j (by decide) (by decide)), f.obj (o := 157) (fun j => n2 _ j (by decide) (by decide)), f.obj (o := 158) (fun j => n2 _ j (by decide) (by decide))]
theorem C_mcup {a b f : Int} : Cl (d + 1) 0 0 mX10_cup [vr 152, vi a, vi b, vi f] (D, rho n1 W) (KI (fun r m => ∃ D', m = (D', rho n1 W) ∧ Fr mcF D D' ∧ D' 152 15 = 0 ∧ ((okCup a b f ∧ r = 1 ∧ mcup D' = zcup (mcup D) a b f ∧ mst D' = zfresh (zcup (mcup D) a b f) (mst D) ∧ D' 152 16 = w32 (D 152 16 + 1)) ∨ (¬ okCup a b f ∧ r = 0 ∧ Fr (fun q j => q = 152 ∧ j = 15) D D')))) := by
  refine Cl_of mb_X10_cup (Nat.le_of_ble_eq_true rfl) (sg_X10_cup_0 ⟨rfl, fun m1 e1 => ?_⟩)
  obtain ⟨E, hE⟩ : ∃ E, E = wr D 152 15 0 := ⟨_, rfl⟩
  have e1 : m1 = (E, rho n1 W) := by rw [hE]; exact e1
  subst e1
  have fE : Fr (fun q j => q = 152 ∧ j = 15) D E := by
    rw [hE]
    exact Fr.refl.wr ⟨rfl, rfl⟩
  have a15 : E 152 15 = 0 := by rw [hE, wr_at]
  have mE : Fr mcF D E := fE.mono (fun q j z => by unfold mcF; omega)
  refine cB C_in (fun hx => yE (cB C_in (fun hy => yE (cB C_in (fun hz => yN ⟨rfl, fun m5 e5 m6 e6 m7 e7 => ?_⟩) (fun hz => nN ⟨_, rfl, E, rfl, mE, a15, Or.inr ⟨fun q => hz q.2.2, rfl, fE⟩⟩))) (fun hy => nE ⟨_, rfl, E, rfl, mE, a15, Or.inr ⟨fun q => hy q.2.1, rfl, fE⟩⟩))) (fun hx => nE ⟨_, rfl, E, rfl, mE, a15, Or.inr ⟨fun q => hx q.1, rfl, fE⟩⟩)
  obtain ⟨B, hB⟩ : ∃ B, B = wr (wr (wr E 152 0 a) 152 1 b) 152 2 f := ⟨_, rfl⟩
  have e7 : m7 = (B, rho n1 W) := by rw [hB, e7, e6, e5]; rfl
  subst e7
  have fB : Fr (fun q j => q = 152 ∧ (j = 0 ∨ j = 1 ∨ j = 2)) E B := by
    rw [hB]
    exact ((Fr.refl.wr (by omega)).wr (by omega)).wr (by omega)
  have b0 : B 152 0 = a := by rw [hB, wr_j (by decide), wr_j (by decide), wr_at]
  have b1 : B 152 1 = b := by rw [hB, wr_j (by decide), wr_at]
  have b2 : B 152 2 = f := by rw [hB, wr_at]
  refine Wp.loop (σ := Int) (fun i => [some (vr 152), some (vi a), some (vi b), some (vi f), some (vi i)])
    (fun i μ => ∃ H : DD, μ = (H, rho n1 W) ∧ Fr (fun q _ => q = 154) B H ∧ 0 ≤ i ∧ i ≤ 20 ∧ ∀ k, 0 ≤ k → k < i → H 154 k = 100)
    (fun i => (20 - i).toNat) ?_ 0 _ ⟨B, rfl, Fr.refl, by decide, by decide, fun k a b => by omega⟩
  rintro i μ ⟨H, rfl, hH, i0, i1, hc⟩ ih
  refine sg_X10_cup_55 ⟨fun c => ⟨rfl, cV (C_mbegin (D := H)) ?_⟩, fun c => ⟨rfl, rfl, bnd (N := 20) rfl i0 (by omega), fun m3 e3 z ez => ?_⟩⟩
  · rintro m ⟨G, rfl, fG, hG⟩
    refine ⟨rfl, fun m2 e2 => ?_⟩
    have g16 : G 152 16 = D 152 16 := by rw [fG 152 16 (by unfold mbF; omega), hH 152 16 (by omega), fB 152 16 (by omega), fE 152 16 (by omega)]
    have e2 : m2 = (wr G 152 16 (w32 (D 152 16 + 1)), rho n1 W) := by
      rw [e2, show mD (G, rho n1 W) 152 16 = D 152 16 from g16]
      rfl
    subst e2
    have cH : mcup H = zcup (mcup D) a b f := by
      unfold mcup zcup
      rw [hH 152 0 (by omega), hH 152 1 (by omega), hH 152 2 (by omega), b0, b1, b2, hH.obj (o := 153) (fun j => by omega), fB.obj (o := 153) (fun j => by omega), fE.obj (o := 153) (fun j => by omega)]
      rw [cut_ext (f := H 154) (g := fun _ => 100) (fun k x y => hc k x (by omega))]
      rfl
    have sH : mst H = mst D := by
      rw [mst_fr hH (by omega) (by omega) (fun q j x y => by omega), mst_fr fB (by omega) (by omega) (fun q j x y => by omega), mst_fr fE (by omega) (by omega) (fun q j x y => by omega)]
    have fW : Fr (fun q j => q = 152 ∧ j = 16) G (wr G 152 16 (w32 (D 152 16 + 1))) := Fr.refl.wr ⟨rfl, rfl⟩
    refine ⟨_, rfl, _, rfl, ?_, ?_, Or.inl ⟨⟨hx, hy, hz⟩, rfl, ?_, ?_, wr_at⟩⟩
    · exact (((mE.trans (fB.mono (fun q j z => by unfold mcF; omega))).trans (hH.mono (fun q j z => by unfold mcF; omega))).trans (fG.mono (fun q j z => by unfold mbF at z; unfold mcF; omega))).trans (fW.mono (fun q j z => by unfold mcF; omega))
    · rw [wr_j (by decide), fG 152 15 (by unfold mbF; omega), hH 152 15 (by omega), fB 152 15 (by omega), a15]
    · rw [mcup_fr fW (fun j x y => by omega) (fun q j x y => by omega), mcup_fr fG (fun j x y => by unfold mbF; omega) (fun q j x y => by unfold mbF; omega), cH]
    · rw [mst_fr fW (by omega) (by omega) (fun q j x y => by omega), hG, cH, sH]
  · have e3 : m3 = (wr H 154 i 100, rho n1 W) := e3
    subst e3
    rw [w32_id (by omega) (by omega)] at ez
    subst ez
    refine ih (i + 1) _ ⟨_, rfl, hH.wr rfl, by omega, by omega, fun k x y => ?_⟩ (by omega)
    by_cases q : k = i
    · rw [q, wr_at]
    · rw [wr_j q]
      exact hc k x (by omega)
theorem C_mseed {v : Int} : Cl d 0 0 mX10_seed [vr 152, vi v] (D, rho n1 W) (KI (fun r m => ∃ D', m = (D', rho n1 W) ∧ Fr (fun q j => q = 152 ∧ (j = 10 ∨ j = 15)) D D' ∧ D' 152 15 = 0 ∧ r = D 152 10 ∧ D' 152 10 = v)) := by
  refine Cl_of mb_X10_seed (Nat.le_of_ble_eq_true rfl) (sg_X10_seed_0 ⟨rfl, fun m1 e1 v1 ev m2 e2 => ?_⟩)
  have e1 : m1 = (wr D 152 15 0, rho n1 W) := e1
  subst e1
  have e2 : m2 = (wr (wr D 152 15 0) 152 10 v, rho n1 W) := e2
  subst e2
  refine ⟨_, rfl, _, rfl, (Fr.refl.wr (by omega)).wr (by omega), by rw [wr_j (by decide), wr_at], ?_, wr_at⟩
  rw [ev]
  show wr D 152 15 0 152 10 = D 152 10
  rw [wr_j (by decide)]
end MCU
