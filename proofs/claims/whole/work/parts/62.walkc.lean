/-! ===== the class's walk ===== -/
theorem zfin_good {len en : Int} {p : Ps} (h : zfin len en p = -1) : p.2 = -1 := by
  unfold zfin at h
  by_cases g : p.2 = -1
  · exact g
  · rw [if_neg g] at h
    exact h
/-- what walk(i) tells and leaves (t: the TEXT's signs, n: how many) -/
def zwFin (t : Int → Int) (n : Int) : Int := zfin n (min n 60) (zwalk t (min n 60)).1
def WkA (n1 : Nat) (D : DD) (W : Nat → Nat) (t : Int → Int) (n i r : Int) (m : Mem) : Prop := ∃ (D' : DD) (W' : Nat → Nat), m = (D', rho n1 W') ∧ Fr (fun q j => q = 17 ∨ wF (W 4) q j) D D' ∧ D' 17 1 = 0 ∧ (0 ≤ D' (W 4) 4 ∧ D' (W 4) 4 ≤ 1000) ∧
  (¬ (0 ≤ i ∧ i ≤ 3) ∧ r = -100 ∧ W' = W ∨ (0 ≤ i ∧ i ≤ 3) ∧ ¬ zwFin t n = -1 ∧ r = w32 (-1 - zwFin t n) ∧ W' = W ∨
    (0 ≤ i ∧ i ≤ 3) ∧ zwFin t n = -1 ∧ r = wTicks (zwalk t (min n 60)).2.1 ∧ W' = uW (uW W i.toNat (W 4)) 4 (W i.toNat) ∧ wkv D' (W 4) = (zwalk t (min n 60)).2.1)
section WLK
variable {d n1 : Nat} {W : Nat → Nat} {D : DD} {t : Int → Int}
theorem sR_19 {b : Nat} {j : Int} (h0 : 0 ≤ j) (h1 : j < 4) : sR (D, rho n1 W) 19 j b = (D, rho n1 (uW W j.toNat b)) := by
  show (D, (fun o k => if o = 19 ∧ k = j then b else RF W o k), KT, NT n1, 0) = (D, RF (uW W j.toNat b), KT, NT n1, 0)
  rw [RF_u19 h0 h1]
theorem sR_4_7 {b : Nat} : sR (D, rho n1 W) 4 7 b = (D, rho n1 (uW W 4 b)) := by
  show (D, (fun o k => if o = 4 ∧ k = 7 then b else RF W o k), KT, NT n1, 0) = (D, RF (uW W 4 b), KT, NT n1, 0)
  rw [RF_u4_7]
theorem C_walk {i : Int} (hm : MP D W) (h0 : 0 ≤ D 17 1) (h1 : D 17 1 ≤ 80) (ht : ∀ k, 0 ≤ k → k < D 17 1 → D 18 k = t k) : Cl (d + 7) 0 0 mX9_walk [vr 4, vi i] (D, rho n1 W) (KI (WkA n1 D W t (D 17 1) i)) := by
  have hw := hm.2.1 4 (by decide)
  have ht4 := hm.2.2.2 4 (by decide)
  refine Cl_of mb_X9_walk (Nat.le_of_ble_eq_true rfl) (sg_X9_walk_0 (cB C_isWalk (fun hi => yN ⟨rfl, (sWk_of (n1 := n1) (W := W) hw).1, cV (C_wread (D := D) (w := W 4) hw h0 h1 ht rfl) ?_⟩) (fun hi => nN ⟨rfl, rfl, fun m6 e6 => ?_⟩)))
  rotate_left
  · have e6 : m6 = (wr D 17 1 0, rho n1 W) := e6
    subst e6
    exact ⟨_, rfl, _, W, rfl, Fr.refl.wr (Or.inl rfl), wr_at, by rw [wr_o (by unfold walkId at hw; omega)]; exact ht4, Or.inl ⟨hi, rfl, rfl⟩⟩
  rintro m ⟨G, rfl, f1, R1⟩
  refine ⟨rfl, rfl, cI (C_finish (D := G) R1.1) ?_⟩
  rintro x m ⟨H, rfl, f2, k1, k2⟩
  rw [f1 17 1 (by unfold wF; unfold walkId at hw; omega)] at k2
  have k2 : x = zwFin t (D 17 1) := k2
  have F : Fr (fun q j => q = 17 ∨ wF (W 4) q j) D H := (f1.mono (fun q j z => by
    rcases z with z | z
    · exact Or.inl z.1
    · exact Or.inr z)).trans (f2.mono (fun q j z => Or.inl z))
  have ek : wkv H (W 4) = wkv G (W 4) := wkv_fr f2 (fun q j a b => by unfold walkId at hw; omega)
  have e4 : H (W 4) 4 = G (W 4) 4 := congrArg (fun q : Wv => q.1) ek
  have hb : 0 ≤ H (W 4) 4 ∧ H (W 4) 4 ≤ 1000 := by rw [e4]; exact R1.2.1
  refine ⟨fun c => ?_, fun c => ⟨_, rfl, H, W, rfl, F, k1, hb, Or.inr (Or.inl ⟨hi, by rw [← k2]; exact c, by rw [k2], rfl⟩)⟩⟩
  have c : zwFin t (D 17 1) = -1 := by rw [← k2]; exact c
  have hv : wkv G (W 4) = (zwalk t (min (D 17 1) 60)).2.1 := (R1.2.2 (zfin_good c)).1
  have ei : mR (H, rho n1 W) (mR (H, rho n1 W) 4 5) i = W i.toNat := RF_19 hi.1 (by omega)
  refine ⟨rfl, rfl, bnd (N := 4) rfl hi.1 (by omega), bnd (N := 4) rfl hi.1 (by omega), (sWk_of (n1 := n1) (W := W) hw).1, fun m4 e4 => ?_⟩
  have e4 : m4 = (H, rho n1 (uW W i.toNat (W 4))) := e4.trans (sR_19 hi.1 (by omega))
  subst e4
  refine ⟨rfl, fun m5 e5 => ?_⟩
  rw [ei] at e5
  have e5 : m5 = (H, rho n1 (uW (uW W i.toNat (W 4)) 4 (W i.toNat))) := e5.trans sR_4_7
  subst e5
  have ei2 : mR (H, rho n1 (uW (uW W i.toNat (W 4)) 4 (W i.toNat))) (mR (H, rho n1 (uW (uW W i.toNat (W 4)) 4 (W i.toNat))) 4 5) i = W 4 := by
    refine (RF_19 hi.1 (by omega)).trans ?_
    unfold uW
    rw [if_neg (by omega), if_pos rfl]
  rw [ei2]
  exact ⟨rfl, rfl, bnd (N := 4) rfl hi.1 (by omega), (sWk_of (n1 := n1) (W := W) hw).1, _, rfl, H, _, rfl, F, k1, hb, Or.inr (Or.inr ⟨hi, c, by rw [← hv, ← ek]; rfl, rfl, by rw [ek]; exact hv⟩)⟩
end WLK
