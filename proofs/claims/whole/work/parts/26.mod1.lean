/-! ===== the model's rows: blocks of 20 in one array ===== -/
def sh (r : Int) (F : Int → Int) : Int → Int := fun j => F (20 * r + j)
def blk (r : Int) (g F : Int → Int) : Int → Int := fun k => if 20 * r ≤ k ∧ k < 20 * r + 20 then g (k - 20 * r) else F k
theorem blk_sh {r : Int} {F : Int → Int} : blk r (sh r F) F = F := by
  funext k
  unfold blk sh
  by_cases e : 20 * r ≤ k ∧ k < 20 * r + 20
  · rw [if_pos e]
    congr 1
    omega
  · rw [if_neg e]
theorem blk_at {r j : Int} {g F : Int → Int} (h0 : 0 ≤ j) (h1 : j < 20) : blk r g F (20 * r + j) = g j := by
  unfold blk
  rw [if_pos (by omega)]
  congr 1
  omega
theorem blk_zu {r j x : Int} {g F : Int → Int} (h0 : 0 ≤ j) (h1 : j < 20) : zu (blk r g F) (20 * r + j) x = blk r (zu g j x) F := by
  funext k
  unfold zu blk
  by_cases e : k = 20 * r + j
  · rw [if_pos e, if_pos (by omega)]
    exact (if_pos (by omega)).symm
  · rw [if_neg e]
    by_cases e2 : 20 * r ≤ k ∧ k < 20 * r + 20
    · rw [if_pos e2, if_pos e2]
      exact (if_neg (by omega)).symm
    · rw [if_neg e2, if_neg e2]
theorem blk_ne {r k : Int} {g F : Int → Int} (h : ¬ (20 * r ≤ k ∧ k < 20 * r + 20)) : blk r g F k = F k := if_neg h
def ModOK (μ : Mem) (a : Nat) : Prop := mK μ a = 11 ∧ (mK μ (mR μ a 3) = 20 ∧ mN μ (mR μ a 3) = 7) ∧ (mK μ (mR μ a 4) = 20 ∧ mN μ (mR μ a 4) = 20) ∧ (mK μ (mR μ a 6) = 20 ∧ mN μ (mR μ a 6) = 40) ∧ (mK μ (mR μ a 7) = 20 ∧ mN μ (mR μ a 7) = 40) ∧ (mK μ (mR μ a 8) = 20 ∧ mN μ (mR μ a 8) = 2) ∧
  mR μ a 6 ≠ mR μ a 7 ∧ mR μ a 3 ≠ mR μ a 7 ∧ mR μ a 4 ≠ mR μ a 7 ∧ mR μ a 3 ≠ mR μ a 6 ∧ mR μ a 4 ≠ mR μ a 6 ∧ 2 ≤ mD μ a 0 ∧ mD μ a 0 ≤ 20
theorem btw_mm {x : Int} : max (-8000) (min 8000 x) = btw x (-8000) 8000 := by
  unfold btw
  by_cases h1 : -8000 ≤ x
  · rw [if_pos h1]
    by_cases h2 : x ≤ 8000
    · rw [if_pos h2]; omega
    · rw [if_neg h2]; omega
  · rw [if_neg h1]; omega
/-- the first loop: what drives the flows -/
theorem mod_drive {d a : Nat} {r push x1 : Int} {μ : Mem} {Q : Option (Option AV) → Mem → Prop} (hm : ModOK μ a) (hr0 : 0 ≤ r) (hr1 : r ≤ 1)
    (kk : Wp (d + 1) 0 0 mX10_flows 145 [some (vr a), some (vi r), some (vi push), some (vi x1), some (vi 0), none, none, none] [] (sA μ (mR μ a 7) (blk r (drv (mD μ a 0 - 1) (mD μ (mR μ a 3) 0) x1 push (sh r (mD μ (mR μ a 6))) (sh r (mD μ (mR μ a 7))) (mD μ (mR μ a 4))) (mD μ (mR μ a 7)))) Q) :
    Wp (d + 1) 0 0 mX10_flows 29 [some (vr a), some (vi r), some (vi push), some (vi x1), some (vi 0), none, none, none] [] μ Q := by
  obtain ⟨k1, ⟨k2, k3⟩, ⟨k4, k5⟩, ⟨k6, k7⟩, ⟨k8, k9⟩, ⟨k10, k11⟩, n67, n37, n47, n36, n46, l0, l1⟩ := hm
  have na : a ≠ mR μ a 7 := ne_kind (μ := μ) (by omega)
  generalize eH : mD μ (mR μ a 6) = HH at kk
  generalize eF : mD μ (mR μ a 7) = FF at kk
  generalize eO : mD μ (mR μ a 4) = OO at kk
  generalize eS : mD μ (mR μ a 3) 0 = sf at kk
  have wl : w32 (mD μ a 0 - 1) = mD μ a 0 - 1 := w32_id (by omega) (by omega)
  have main : ∀ (k : Nat) (i : Int), 0 ≤ i → i + k = mD μ a 0 - 1 → Wp (d + 1) 0 0 mX10_flows 29 [some (vr a), some (vi r), some (vi push), some (vi x1), some (vi i), none, none, none] [] (sA μ (mR μ a 7) (blk r (drv i sf x1 push (sh r HH) (sh r FF) OO) FF)) Q := by
    intro k
    induction k with
    | zero =>
      intro i h0 h1
      have e : i = mD μ a 0 - 1 := by omega
      rw [e]
      refine sg_X10_flows_29 ⟨k1, fun _ => kk, fun cc => absurd ?_ cc⟩
      rw [sA_ne na, wl]
      exact Int.le_refl _
    | succ k ih =>
      intro i h0 h1
      have w1 : w32 (20 * r) = 20 * r := w32_id (by omega) (by omega)
      have w2 : w32 (20 * r + i) = 20 * r + i := w32_id (by omega) (by omega)
      have w3 : w32 (20 * r + i + 1) = 20 * r + (i + 1) := by rw [w32_id (by omega) (by omega)]; omega
      have w4 : w32 (i + 1) = i + 1 := w32_id (by omega) (by omega)
      refine sg_X10_flows_29 ⟨k1, fun cc => absurd cc (by rw [sA_ne na, wl]; omega), fun cc v1 e1 => ?_⟩
      rw [w1, w2] at e1
      subst e1
      refine ⟨Or.inl k8, ⟨by omega, by show _ < (mN μ (mR μ a 7) : Int); omega⟩, Or.inl k2, ⟨by omega, by show _ < (mN μ (mR μ a 3) : Int); omega⟩, Or.inl k6, ⟨by omega, by show _ < (mN μ (mR μ a 6) : Int); omega⟩, ⟨by omega, by show _ < (mN μ (mR μ a 6) : Int); omega⟩, fun v2 e2 v3 e3 => ⟨Or.inl k4, ⟨h0, by show _ < (mN μ (mR μ a 4) : Int); omega⟩, fun v4 e4 => ⟨0, 0, _, C_min, Nat.le_refl _, Nat.le_refl _, fun y1 m1 hK => ?_⟩⟩⟩
      obtain ⟨f1, f2⟩ := hK
      rw [f2]
      refine ⟨0, 0, _, C_max, Nat.le_refl _, Nat.le_refl _, fun y2 m2 hK => ?_⟩
      obtain ⟨f3, f4⟩ := hK
      rw [f4]
      refine ⟨k8, ⟨by omega, by show _ < (mN μ (mR μ a 7) : Int); omega⟩, fun m3 f5 v5 f6 => ?_⟩
      change v2 = w32 (w32 (mD (sA μ (mR μ a 7) _) (mR μ a 7) (20 * r + i) + w32 ((w32 (mD (sA μ (mR μ a 7) _) (mR μ a 3) 0 * w32 (mD (sA μ (mR μ a 7) _) (mR μ a 6) (20 * r + i) - mD (sA μ (mR μ a 7) _) (mR μ a 6) (w32 (20 * r + i + 1))))).tdiv 16)) + push) at e2
      rw [sA_at, sA_ne n37, sA_ne n67, eH, eS, blk_at h0 (by omega), w3] at e2
      have e2 : v2 = dfl1 sf push (sh r HH) (sh r FF) i := by
        rw [e2, show drv i sf x1 push (sh r HH) (sh r FF) OO i = sh r FF i from if_neg (by omega)]
        rfl
      change v4 = w32 ((w32 (v3 * mD (sA μ (mR μ a 7) _) (mR μ a 4) i)).tdiv 100) at e4
      rw [sA_ne n47, eO, e3, e2] at e4
      rw [f1, btw_mm, e4] at f3
      have f3 : y2 = dflow sf x1 push (sh r HH) (sh r FF) OO i := f3
      change m3 = sD (sA μ (mR μ a 7) _) (mR μ a 7) (20 * r + i) y2 at f5
      rw [sD_sA, sA_sA, sA_at, blk_zu h0 (by omega), f3, drv_s h0] at f5
      rw [w4] at f6
      rw [f5, f6]
      exact ih (i + 1) (by omega) (by omega)
  have := main (mD μ a 0 - 1).toNat 0 (by omega) (by omega)
  rw [drv_0, blk_sh, ← eF, sA_self] at this
  exact this
