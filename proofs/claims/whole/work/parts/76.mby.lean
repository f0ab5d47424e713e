/-! ===== what a LAW gives, in the model ===== -/
def byF (q : Nat) (j : Int) : Prop := q = 152 ∧ ((18 ≤ j ∧ j ≤ 21) ∨ (36 ≤ j ∧ j ≤ 39))
section MBY
variable {d n1 : Nat} {W : Nat → Nat} {D : DD} {t : Int → Int}
theorem C_mbounded {x : Int} {μ : Mem} : Cl (d + 1) 0 0 mX10_bounded [vi x] μ (KI (fun r m => r = btw x (-500) 500 ∧ m = μ)) := by
  refine Cl_of mb_X10_bounded (Nat.le_of_ble_eq_true rfl) (sg_X10_bounded_0 (cP C_min (cP C_max ⟨_, rfl, ?_, rfl⟩)))
  unfold btw
  omega
theorem C_mbyLaw {i P S T H : Int} (hi : 0 ≤ i ∧ i ≤ 2) (h1 : 1 ≤ D 175 i) (h40 : D 175 i ≤ 40) (ht : ∀ k, 0 ≤ k → k < D 175 i → D (172 + i.toNat) k = t k) (hz : zlFin t (D 175 i) = -1) (hok : w32 P = P ∧ w32 S = S ∧ w32 T = T ∧ w32 (D 153 2) = D 153 2 ∧ w32 H = H) :
    Cl (d + 127) 0 0 mX10_byLaw [vr 152, vi i, vi P, vi S, vi T, vi H] (D, rho n1 W) (KI (fun r m => r = zlaw (zlawr t (D 175 i)).2 P S T (D 153 2) H ∧ ∃ D', m = (D', rho n1 (uW W 12 (172 + i.toNat))) ∧ Fr byF D D')) := by
  refine Cl_of mb_X10_byLaw (Nat.le_of_ble_eq_true rfl) (sg_X10_byLaw_0 ⟨rfl, fun m1 e1 m2 e2 m3 e3 m4 e4 => ?_⟩)
  obtain ⟨E, hE⟩ : ∃ E, E = wr (wr (wr (wr D 152 36 P) 152 37 S) 152 38 T) 152 39 H := ⟨_, rfl⟩
  have e4 : m4 = (E, rho n1 W) := by rw [hE, e4, e3, e2, e1]; rfl
  subst e4
  have fE : Fr byF D E := by
    rw [hE]
    exact (((Fr.refl.wr (by unfold byF; omega)).wr (by unfold byF; omega)).wr (by unfold byF; omega)).wr (by unfold byF; omega)
  have a36 : E 152 36 = P := by rw [hE, wr_j (by decide), wr_j (by decide), wr_j (by decide), wr_at]
  have a37 : E 152 37 = S := by rw [hE, wr_j (by decide), wr_j (by decide), wr_at]
  have a38 : E 152 38 = T := by rw [hE, wr_j (by decide), wr_at]
  have a39 : E 152 39 = H := by rw [hE, wr_at]
  have a172 : E 175 i = D 175 i := fE 175 i (by unfold byF; omega)
  obtain ⟨r1, r2, r3⟩ := RF_171 (D := E) (n1 := n1) (W := W) hi
  refine ⟨rfl, bnd (N := 3) rfl hi.1 (by omega), Or.inl rfl, bnd (N := 3) rfl hi.1 (by omega), ?_⟩
  rw [show mR (E, rho n1 W) (mR (E, rho n1 W) 152 34) i = 172 + i.toNat from r1]
  rw [show mD (E, rho n1 W) (mR (E, rho n1 W) 152 35) i = D 175 i from a172]
  refine cV (C_mstart (D := E) (a := 172 + i.toNat) (n := D 175 i) (mx := 40)) ?_
  rintro m5 rfl
  obtain ⟨B, hB⟩ : ∃ B, B = wr (wr (wr (wr E 152 18 (D 175 i)) 152 19 40) 152 20 0) 152 21 (-1) := ⟨_, rfl⟩
  rw [← hB]
  have fB : Fr (fun q j => q = 152 ∧ (18 ≤ j ∧ j ≤ 21)) E B := by
    rw [hB]
    exact (((Fr.refl.wr (by omega)).wr (by omega)).wr (by omega)).wr (by omega)
  have b18 : B 152 18 = D 175 i := by rw [hB, wr_j (by decide), wr_j (by decide), wr_j (by decide), wr_at]
  have b19 : B 152 19 = 40 := by rw [hB, wr_j (by decide), wr_j (by decide), wr_at]
  have b20 : B 152 20 = 0 := by rw [hB, wr_j (by decide), wr_at]
  have b21 : B 152 21 = -1 := by rw [hB, wr_at]
  have emin : min (D 175 i) 40 = D 175 i := by omega
  have TB : MxR B (uW W 12 (172 + i.toNat)) t (D 175 i) (0, -1) := by
    refine ⟨by rw [b18, b19, emin], b21, by omega, fun _ => ⟨b20, by dsimp only; omega⟩, by show (-1 : Int) ≤ -1; decide, fun k a b => ?_, by omega, ?_, fun _ => h40⟩
    · show B (172 + i.toNat) k = t k
      rw [fB _ k (by omega), fE _ k (by unfold byF; omega)]
      exact ht k a b
    · show mtId (172 + i.toNat)
      unfold mtId
      omega
  have hzl : zlawr t (D 175 i) = lS t (D 175 i) 4 (0, -1) := if_pos (by omega)
  refine ⟨rfl, cI (M_sum4 (ε := (P, S, T, D 153 2, H)) h40 B (0, -1) (d + 126) rfl TB ⟨?_, ?_, ?_, ?_, ?_⟩ (by dsimp only; omega) (by dsimp only; omega)) ?_⟩
  · rw [fB 152 36 (by omega)]; exact a36
  · rw [fB 152 37 (by omega)]; exact a37
  · rw [fB 152 38 (by omega)]; exact a38
  · rw [fB 153 2 (by omega), fE 153 2 (by unfold byF; omega)]; rfl
  · rw [fB 152 39 (by omega)]; exact a39
  rintro x1 m ⟨G, rfl, f2, T2, q2⟩
  refine cP C_mbounded ⟨_, rfl, ?_, G, rfl, (fE.trans (fB.mono (fun q j z => by unfold byF; omega))).trans (f2.mono (fun q j z => by unfold mxF at z; unfold byF; omega))⟩
  have hg : (lS t (D 175 i) 4 (0, -1)).1.2 = -1 := by
    rw [← hzl]
    unfold zlFin at hz
    rw [emin] at hz
    exact zfin_good hz
  have hval := (q2 hok hg).2 [] (by decide)
  rw [hzl]
  show btw x1 (-500) 500 = ztop (lev (P, S, T, D 153 2, H) [] (lS t (D 175 i) 4 (0, -1)).2)
  rw [hval]
  rfl
end MBY
