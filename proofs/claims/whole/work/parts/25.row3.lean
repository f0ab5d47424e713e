/-! ===== Row.pass ===== -/
/-- a row's TICK: heights, flows, what ran over -/
def zpass (last rim lid sf less push : Int) (h f ho : Int → Int) : (Int → Int) × (Int → Int) × Int :=
  let p := zmv last.toNat (h, drv last sf less push h f ho)
  let h3 := zoh p.1 rim lid 0
  (zoh h3 rim lid last, p.2, w32 (zov p.1 rim lid 0 + zov h3 rim lid last))
def zM (μ : Mem) (a : Nat) (p : (Int → Int) × (Int → Int)) : Mem := sA (sA μ (mR μ a 1) p.2) (mR μ a 0) p.1
theorem zM_h {μ : Mem} {a : Nat} {p : (Int → Int) × (Int → Int)} : mD (zM μ a p) (mR μ a 0) = p.1 := sA_at
theorem zM_f {μ : Mem} {a : Nat} {p : (Int → Int) × (Int → Int)} (h : mR μ a 0 ≠ mR μ a 1) : mD (zM μ a p) (mR μ a 1) = p.2 := by
  unfold zM
  rw [sA_ne (Ne.symm h), sA_at]
theorem zM_o {μ : Mem} {a o : Nat} {p : (Int → Int) × (Int → Int)} (h0 : o ≠ mR μ a 0) (h1 : o ≠ mR μ a 1) : mD (zM μ a p) o = mD μ o := by
  unfold zM
  rw [sA_ne h0, sA_ne h1]
theorem zM_zM {μ : Mem} {a : Nat} {p q : (Int → Int) × (Int → Int)} (h : mR μ a 0 ≠ mR μ a 1) : zM (zM μ a p) a q = zM μ a q := by
  show sA (sA (sA (sA μ (mR μ a 1) p.2) (mR μ a 0) p.1) (mR μ a 1) q.2) (mR μ a 0) q.1 = sA (sA μ (mR μ a 1) q.2) (mR μ a 0) q.1
  rw [sA_comm (μ := sA μ (mR μ a 1) p.2) (a := mR μ a 0) (b := mR μ a 1) h, sA_sA, sA_sA]
theorem ne_kind {μ : Mem} {o o' : Nat} (h : mK μ o ≠ mK μ o') : o ≠ o' := fun e => h (by rw [e])
theorem C_pass {d a c : Nat} {push : Int} {μ : Mem} (hr : RowOK μ a) (hc : CupOK μ c) (s0 : mR μ c 3 ≠ mR μ a 0) (s1 : mR μ c 3 ≠ mR μ a 1) (h4 : mR μ c 4 ≠ mR μ a 1) :
    Cl (d + 2) 0 0 mX4_pass [vr a, vr c, vi push] μ (KI (fun r m => r = (zpass (mD μ c 0) (mD μ c 1) (mD μ (mR μ c 3) 4) (mD μ (mR μ c 3) 0) (dless (mD μ (mR μ c 3))) push (mD μ (mR μ a 0)) (mD μ (mR μ a 1)) (mD μ (mR μ c 4))).2.2 ∧
      m = sD (zM μ a ((zpass (mD μ c 0) (mD μ c 1) (mD μ (mR μ c 3) 4) (mD μ (mR μ c 3) 0) (dless (mD μ (mR μ c 3))) push (mD μ (mR μ a 0)) (mD μ (mR μ a 1)) (mD μ (mR μ c 4))).1, (zpass (mD μ c 0) (mD μ c 1) (mD μ (mR μ c 3) 4) (mD μ (mR μ c 3) 0) (dless (mD μ (mR μ c 3))) push (mD μ (mR μ a 0)) (mD μ (mR μ a 1)) (mD μ (mR μ c 4))).2.1)) a 2 (w32 (mD μ a 2 + r)))) := by
  have hr' := hr
  obtain ⟨r1, r2, r3, r4, r5, r6⟩ := hr
  have hc' := hc
  obtain ⟨c1, c2, c3, c4, c5, c6, c7⟩ := hc
  have n0 : c ≠ mR μ a 0 := ne_kind (μ := μ) (by omega)
  have n1 : c ≠ mR μ a 1 := ne_kind (μ := μ) (by omega)
  have m0 : a ≠ mR μ a 0 := ne_kind (μ := μ) (by omega)
  have m1 : a ≠ mR μ a 1 := ne_kind (μ := μ) (by omega)
  have hcz : ∀ p, CupOK (zM μ a p) c := fun p => ⟨c1, c2, c3, c4, c5, by rw [zM_o n0 n1]; exact c6, by rw [zM_o n0 n1]; exact c7⟩
  refine Cl_of mb_X4_pass (by show 3 ≤ 4; decide) (sg_X4_pass_0 ⟨r1, 0, 0, _, C_drive hr' hc' h4, Nat.le_refl _, Nat.le_refl _, fun q1 hK => ?_⟩)
  generalize e0 : drv (mD μ c 0) (mD μ (mR μ c 3) 0) (dless (mD μ (mR μ c 3))) push (mD μ (mR μ a 0)) (mD μ (mR μ a 1)) (mD μ (mR μ c 4)) = f1 at hK
  rw [hK]
  have main : ∀ (k : Nat) (i : Nat), (i : Int) + k = mD μ c 0 → Wp (d + 1 + 1) 0 0 mX4_pass 8 [some (vr a), some (vr c), some (vi push), some (vi (i : Int))] [] (zM μ a (zmv i (mD μ (mR μ a 0), f1))) (KI (fun r m => r = (zpass (mD μ c 0) (mD μ c 1) (mD μ (mR μ c 3) 4) (mD μ (mR μ c 3) 0) (dless (mD μ (mR μ c 3))) push (mD μ (mR μ a 0)) (mD μ (mR μ a 1)) (mD μ (mR μ c 4))).2.2 ∧
      m = sD (zM μ a ((zpass (mD μ c 0) (mD μ c 1) (mD μ (mR μ c 3) 4) (mD μ (mR μ c 3) 0) (dless (mD μ (mR μ c 3))) push (mD μ (mR μ a 0)) (mD μ (mR μ a 1)) (mD μ (mR μ c 4))).1, (zpass (mD μ c 0) (mD μ c 1) (mD μ (mR μ c 3) 4) (mD μ (mR μ c 3) 0) (dless (mD μ (mR μ c 3))) push (mD μ (mR μ a 0)) (mD μ (mR μ a 1)) (mD μ (mR μ c 4))).2.1)) a 2 (w32 (mD μ a 2 + r)))) := by
    intro k
    induction k with
    | zero =>
      intro i hi
      have hi' : i = (mD μ c 0).toNat := by omega
      have hrz : RowOK (zM μ a (zmv i (mD μ (mR μ a 0), f1))) a := hr'
      refine sg_X4_pass_8 ⟨c1, fun cc => ⟨r1, 0, 0, _, C_runOver hrz (hcz _) (by omega) (by omega), Nat.le_refl _, Nat.le_refl _, fun x1 q2 hq => ?_⟩, fun cc => absurd (show mD (zM μ a _) c 0 ≤ (i : Int) by rw [zM_o n0 n1]; omega) cc⟩
      obtain ⟨x1e, q2e⟩ := hq
      have q2e : q2 = sA (zM μ a (zmv i (mD μ (mR μ a 0), f1))) (mR μ a 0) (zoh (mD (zM μ a (zmv i (mD μ (mR μ a 0), f1))) (mR μ a 0)) (mD (zM μ a (zmv i (mD μ (mR μ a 0), f1))) c 1) (mD (zM μ a (zmv i (mD μ (mR μ a 0), f1))) (mR μ c 3) 4) 0) := q2e
      have x1e : x1 = zov (mD (zM μ a (zmv i (mD μ (mR μ a 0), f1))) (mR μ a 0)) (mD (zM μ a (zmv i (mD μ (mR μ a 0), f1))) c 1) (mD (zM μ a (zmv i (mD μ (mR μ a 0), f1))) (mR μ c 3) 4) 0 := x1e
      rw [zM_h, zM_o n0 n1, zM_o s0 s1] at q2e x1e
      have e3 : q2 = zM μ a (zoh (zmv i (mD μ (mR μ a 0), f1)).1 (mD μ c 1) (mD μ (mR μ c 3) 4) 0, (zmv i (mD μ (mR μ a 0), f1)).2) := by
        rw [q2e]
        exact sA_sA
      rw [e3]
      refine ⟨c1, r1, 0, 0, _, C_runOver (g := mD (zM μ a _) c 0) hr' (hcz _) (by rw [zM_o n0 n1]; omega) (by rw [zM_o n0 n1]; omega), Nat.le_refl _, Nat.le_refl _, fun x2 q3 hq => ?_⟩
      obtain ⟨x2e, q3e⟩ := hq
      change x2 = zov (mD (zM μ a _) (mR μ a 0)) (mD (zM μ a _) c 1) (mD (zM μ a _) (mR μ c 3) 4) _ at x2e
      change q3 = sA (zM μ a _) (mR μ a 0) (zoh (mD (zM μ a _) (mR μ a 0)) (mD (zM μ a _) c 1) (mD (zM μ a _) (mR μ c 3) 4) _) at q3e
      rw [zM_h, zM_o n0 n1, zM_o s0 s1] at q3e x2e
      refine fun v1 ev => ?_
      have e4 : q3 = zM μ a (zoh (zoh (zmv i (mD μ (mR μ a 0), f1)).1 (mD μ c 1) (mD μ (mR μ c 3) 4) 0) (mD μ c 1) (mD μ (mR μ c 3) 4) (mD μ c 0), (zmv i (mD μ (mR μ a 0), f1)).2) := by
        rw [q3e]
        exact sA_sA
      rw [e4]
      refine ⟨r1, fun q4 eq4 => ⟨_, rfl, ?_, ?_⟩⟩
      · rw [ev, x1e, x2e, hi', ← e0]
        rfl
      · rw [eq4, zM_o m0 m1, hi', ← e0]
        rfl
    | succ k ih =>
      intro i hi
      refine sg_X4_pass_8 ⟨c1, fun cc => absurd (show mD (zM μ a _) c 0 ≤ (i : Int) from cc) (by rw [zM_o n0 n1]; omega), fun cc => ⟨r1, 0, 0, _, C_move hr' (by omega) (by omega), Nat.le_refl _, Nat.le_refl _, fun q2 hq v2 e2 => ?_⟩⟩
      have hq : q2 = zM (zM μ a (zmv i (mD μ (mR μ a 0), f1))) a (zmh (mD (zM μ a (zmv i (mD μ (mR μ a 0), f1))) (mR μ a 0)) (mD (zM μ a (zmv i (mD μ (mR μ a 0), f1))) (mR μ a 1)) i, zmf (mD (zM μ a (zmv i (mD μ (mR μ a 0), f1))) (mR μ a 0)) (mD (zM μ a (zmv i (mD μ (mR μ a 0), f1))) (mR μ a 1)) i) := hq
      rw [zM_zM r6, zM_h, zM_f r6] at hq
      rw [w32_id (by omega) (by omega)] at e2
      rw [hq, e2]
      exact ih (i + 1) (by omega)
  have := main (mD μ c 0).toNat 0 (by omega)
  rw [show zM μ a (zmv 0 (mD μ (mR μ a 0), f1)) = sA μ (mR μ a 1) f1 by
    show sA (sA μ (mR μ a 1) f1) (mR μ a 0) (mD μ (mR μ a 0)) = _
    rw [← sA_ne (μ := μ) (g := f1) r6]
    exact sA_self] at this
  exact this
