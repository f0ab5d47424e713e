/-! ===== the model's LAW: products, sums ===== -/
section MLP
variable {d n1 : Nat} {W : Nat → Nat} {D : DD} {t : Int → Int} {en : Int} {p : Ps} {ε : LEnv}
theorem M_product {g : Ps → Ls} {nd : Nat} {dp n : Int} (h40 : en ≤ 40) (hcon : Lcon en g) (hg0 : MOK mX10_thing n1 W t en ε g nd dp 4 n) : MOK mX10_product n1 W t en ε (lprod t en g) (nd + 1) dp (5) n := by
  intro D p e hg hT hE hn he
  have hp := hT.at hg
  obtain ⟨e0, rfl⟩ : ∃ e0, e = e0 + 1 := ⟨e - 1, by omega⟩
  have he : 3 * (en - p.1) + 4 ≤ (e0 : Int) := by omega
  refine Cl_of mb_X10_product (Nat.le_of_ble_eq_true rfl) (sg_X10_product_0 ⟨rfl, cI (hg0 D p e0 hg hT hE hn he) ?_⟩)
  rintro x0 m ⟨G0, rfl, f0, T0, q0⟩
  refine Wp.loop (σ := Int × Nat) (fun z => [some (vr 152), some (vi dp), some (vi z.1), none, none])
    (fun z μ => ∃ (E : DD) (x : Ls), μ = (E, rho n1 W) ∧ Fr mxF D E ∧ MxR E W t en x.1 ∧ (x.1.2 = -1 → p.1 ≤ x.1.1 ∧ en - x.1.1 ≤ z.2) ∧ lmore t en 42 (-3) 47 (-4) g z.2 x = lprod t en g p ∧ (LEnv.ok ε → x.1.2 = -1 → Val ε (nd + 1) x.2 z.1))
    (fun z => z.2) ?_ (x0, 40) _ ⟨G0, g p, rfl, f0, T0, fun y => ?_, rfl, fun ok y => (q0 ok y).le (Nat.le_succ _)⟩
  rotate_left
  · have := hcon p hg hp.1 hp.2 y
    dsimp only
    omega
  rintro ⟨a2, kf⟩ μ ⟨E, ⟨q, cs⟩, rfl, hF, T, hx, hz, hv⟩ ih
  have T : MxR E W t en q := T
  have hx : q.2 = -1 → p.1 ≤ q.1 ∧ en - q.1 ≤ kf := hx
  have hz : lmore t en 42 (-3) 47 (-4) g kf (q, cs) = lprod t en g p := hz
  have hv : LEnv.ok ε → q.2 = -1 → Val ε (nd + 1) cs a2 := hv
  have stop : ¬ (q.2 = -1 ∧ pk t en q.1 = 42) → ¬ (q.2 = -1 ∧ pk t en q.1 = 47) → KI (fun r m => ∃ D', m = (D', rho n1 W) ∧ Fr mxF D D' ∧ MxR D' W t en (lprod t en g p).1 ∧ (LEnv.ok ε → (lprod t en g p).1.2 = -1 → Val ε (nd + 1) (lprod t en g p).2 r)) (some (some (vi a2))) (E, rho n1 W) := by
    intro n1 n2
    rw [lmore_stop (x := (q, cs)) (zskipP_n n1).1 (zskipP_n n2).1] at hz
    rw [← hz]
    exact ⟨_, rfl, E, rfl, hF, T, hv⟩
  refine sg_X10_product_6 ⟨rfl, cB (C_mfine T) (fun good => yE ⟨rfl, cP (C_mhere T) ?_⟩) (fun bad => nE (stop (fun y => bad y.1) (fun y => bad y.1)))⟩
  have eat : E 152 20 = q.1 := (T.2.2.2.1 good).1
  have hq := T.at good
  obtain ⟨x1, x2⟩ := hx good
  have w1 : w32 (E 152 20 + 1) = E 152 20 + 1 := by
    have := T.2.2.1
    exact w32_id (by omega) (by omega)
  have e4 : ∀ m4, m4 = sD (E, rho n1 W) 152 20 (w32 (mD (E, rho n1 W) 152 20 + 1)) → m4 = (wr E 152 20 (E 152 20 + 1), rho n1 W) := fun m4 e4 => by
    rw [e4, show mD (E, rho n1 W) 152 20 = E 152 20 from rfl, w1]
    rfl
  have fS : Fr mxF E (wr E 152 20 (E 152 20 + 1)) := Fr.refl.wr ⟨rfl, Or.inl rfl⟩
  -- behind the next thing
  have go : ∀ (c0 e1 : Int), 0 ≤ c0 → pk t en q.1 = c0 → -4 ≤ e1 ∧ e1 ≤ -1 → (∀ kf', kf = kf' + 1 → lmore t en 42 (-3) 47 (-4) g kf' ((g (q.1 + 1, -1)).1, (cs ++ (g (q.1 + 1, -1)).2) ++ [e1]) = lprod t en g p) →
      ∃ K : Int → Mem → Prop, Cl e0 0 0 mX10_thing [vr 152, vi dp] (wr E 152 20 (E 152 20 + 1), rho n1 W) (KI K) ∧ ∀ x m, K x m → ∀ a', a' = zjoin e1 a2 x → Wp (e0 + 1) 0 0 mX10_product 6 [some (vr 152), some (vi dp), some (vi a'), none, none] [] m (KI (fun r m => ∃ D', m = (D', rho n1 W) ∧ Fr mxF D D' ∧ MxR D' W t en (lprod t en g p).1 ∧ (LEnv.ok ε → (lprod t en g p).1.2 = -1 → Val ε (nd + 1) (lprod t en g p).2 r))) := by
    intro c0 e1 hc hpk he1 hl
    have hlt := pkc_lt hpk hc
    have TS := mx_step T good hlt.2
    obtain ⟨kf', rfl⟩ : ∃ kf', kf = kf' + 1 := ⟨kf - 1, by omega⟩
    have hl := hl kf' rfl
    refine ⟨_, hg0 _ (q.1 + 1, -1) e0 rfl TS ((hE.fr hF).fr fS) (by dsimp only; omega) (by dsimp only; omega), ?_⟩
    rintro x m ⟨H, rfl, f2, T2, q2⟩ a' rfl
    refine ih (zjoin e1 a2 x, kf') _ ⟨H, ((g (q.1 + 1, -1)).1, (cs ++ (g (q.1 + 1, -1)).2) ++ [e1]), rfl, (hF.trans fS).trans f2, T2, fun y => ?_, hl, fun ok y => ?_⟩ (Nat.lt_succ_self _)
    · have y : (g (q.1 + 1, -1)).1.2 = -1 := y
      have := hcon (q.1 + 1, -1) rfl (by dsimp only; omega) (by dsimp only; omega) y
      have h1 : q.1 + 1 + ((g (q.1 + 1, -1)).2.length : Int) ≤ (g (q.1 + 1, -1)).1.1 := this.1
      show p.1 ≤ (g (q.1 + 1, -1)).1.1 ∧ en - (g (q.1 + 1, -1)).1.1 ≤ (kf' : Int)
      omega
    · exact (hv ok good).two (q2 ok y) he1
  rw [eat]
  have s31 : (pk t en q.1 = 42 ∨ pk t en q.1 = 47) → Wp (e0 + 1) 0 0 mX10_product 31 [some (vr 152), some (vi dp), some (vi a2), none, none] [] (E, rho n1 W) (KI (fun r m => ∃ D', m = (D', rho n1 W) ∧ Fr mxF D D' ∧ MxR D' W t en (lprod t en g p).1 ∧ (LEnv.ok ε → (lprod t en g p).1.2 = -1 → Val ε (nd + 1) (lprod t en g p).2 r))) := by
    intro hor
    refine sg_X10_product_31 ⟨rfl, cP (C_mhere T) ?_⟩
    rw [eat]
    refine ⟨fun n1' => ⟨rfl, fun m2 e2 => ?_⟩, fun c1 => ⟨rfl, fun m2 e2 => ?_⟩⟩
    · have c2 : pk t en q.1 = 47 := hor.resolve_left n1'
      have e2 := e4 m2 e2
      subst e2
      obtain ⟨K, k1, k2⟩ := go 47 (-4) (by decide) c2 (by decide) (fun kf' hk => by
        subst hk
        rw [← hz]
        exact ((if_neg (zskipP_n (fun y => n1' y.2)).1).trans (if_pos (zskipP_y good c2).1)).symm)
      refine cI k1 (fun x m hm => ?_)
      exact ⟨fun _ => ⟨fun h => ⟨h, fun v e => k2 x m hm v (by rw [e]; exact (if_neg h).symm)⟩, fun h => k2 x m hm 0 (if_pos h).symm⟩, fun c => absurd rfl c⟩
    · have e2 := e4 m2 e2
      subst e2
      obtain ⟨K, k1, k2⟩ := go 42 (-3) (by decide) c1 (by decide) (fun kf' hk => by
        subst hk
        rw [← hz]
        exact (if_pos (zskipP_y good c1).1).symm)
      refine cI k1 (fun x m hm => ?_)
      exact ⟨fun c => absurd c (by decide), fun _ v e => k2 x m hm v e⟩
  refine ⟨fun c => s31 (Or.inl c), fun c => ⟨rfl, cP (C_mhere T) ?_⟩⟩
  rw [eat]
  exact ⟨fun c2 => stop (fun y => c y.2) (fun y => c2 y.2), fun c2 => s31 (Or.inr c2)⟩
theorem M_sum {g : Ps → Ls} {nd : Nat} {dp n : Int} (h40 : en ≤ 40) (hcon : Lcon en g) (hg0 : MOK mX10_product n1 W t en ε g nd dp 5 n) : MOK mX10_sum n1 W t en ε (lsum t en g) (nd + 1) dp (6) n := by
  intro D p e hg hT hE hn he
  have hp := hT.at hg
  obtain ⟨e0, rfl⟩ : ∃ e0, e = e0 + 1 := ⟨e - 1, by omega⟩
  have he : 3 * (en - p.1) + 5 ≤ (e0 : Int) := by omega
  refine Cl_of mb_X10_sum (Nat.le_of_ble_eq_true rfl) (sg_X10_sum_0 ⟨rfl, cI (hg0 D p e0 hg hT hE hn he) ?_⟩)
  rintro x0 m ⟨G0, rfl, f0, T0, q0⟩
  refine Wp.loop (σ := Int × Nat) (fun z => [some (vr 152), some (vi dp), some (vi z.1), none, none])
    (fun z μ => ∃ (E : DD) (x : Ls), μ = (E, rho n1 W) ∧ Fr mxF D E ∧ MxR E W t en x.1 ∧ (x.1.2 = -1 → p.1 ≤ x.1.1 ∧ en - x.1.1 ≤ z.2) ∧ lmore t en 43 (-1) 45 (-2) g z.2 x = lsum t en g p ∧ (LEnv.ok ε → x.1.2 = -1 → Val ε (nd + 1) x.2 z.1))
    (fun z => z.2) ?_ (x0, 40) _ ⟨G0, g p, rfl, f0, T0, fun y => ?_, rfl, fun ok y => (q0 ok y).le (Nat.le_succ _)⟩
  rotate_left
  · have := hcon p hg hp.1 hp.2 y
    dsimp only
    omega
  rintro ⟨a2, kf⟩ μ ⟨E, ⟨q, cs⟩, rfl, hF, T, hx, hz, hv⟩ ih
  have T : MxR E W t en q := T
  have hx : q.2 = -1 → p.1 ≤ q.1 ∧ en - q.1 ≤ kf := hx
  have hz : lmore t en 43 (-1) 45 (-2) g kf (q, cs) = lsum t en g p := hz
  have hv : LEnv.ok ε → q.2 = -1 → Val ε (nd + 1) cs a2 := hv
  have stop : ¬ (q.2 = -1 ∧ pk t en q.1 = 43) → ¬ (q.2 = -1 ∧ pk t en q.1 = 45) → KI (fun r m => ∃ D', m = (D', rho n1 W) ∧ Fr mxF D D' ∧ MxR D' W t en (lsum t en g p).1 ∧ (LEnv.ok ε → (lsum t en g p).1.2 = -1 → Val ε (nd + 1) (lsum t en g p).2 r)) (some (some (vi a2))) (E, rho n1 W) := by
    intro n1 n2
    rw [lmore_stop (x := (q, cs)) (zskipP_n n1).1 (zskipP_n n2).1] at hz
    rw [← hz]
    exact ⟨_, rfl, E, rfl, hF, T, hv⟩
  refine sg_X10_sum_6 ⟨rfl, cB (C_mfine T) (fun good => yE ⟨rfl, cP (C_mhere T) ?_⟩) (fun bad => nE (stop (fun y => bad y.1) (fun y => bad y.1)))⟩
  have eat : E 152 20 = q.1 := (T.2.2.2.1 good).1
  have hq := T.at good
  obtain ⟨x1, x2⟩ := hx good
  have w1 : w32 (E 152 20 + 1) = E 152 20 + 1 := by
    have := T.2.2.1
    exact w32_id (by omega) (by omega)
  have e4 : ∀ m4, m4 = sD (E, rho n1 W) 152 20 (w32 (mD (E, rho n1 W) 152 20 + 1)) → m4 = (wr E 152 20 (E 152 20 + 1), rho n1 W) := fun m4 e4 => by
    rw [e4, show mD (E, rho n1 W) 152 20 = E 152 20 from rfl, w1]
    rfl
  have fS : Fr mxF E (wr E 152 20 (E 152 20 + 1)) := Fr.refl.wr ⟨rfl, Or.inl rfl⟩
  -- behind the next thing
  have go : ∀ (c0 e1 : Int), 0 ≤ c0 → pk t en q.1 = c0 → -4 ≤ e1 ∧ e1 ≤ -1 → (∀ kf', kf = kf' + 1 → lmore t en 43 (-1) 45 (-2) g kf' ((g (q.1 + 1, -1)).1, (cs ++ (g (q.1 + 1, -1)).2) ++ [e1]) = lsum t en g p) →
      ∃ K : Int → Mem → Prop, Cl e0 0 0 mX10_product [vr 152, vi dp] (wr E 152 20 (E 152 20 + 1), rho n1 W) (KI K) ∧ ∀ x m, K x m → ∀ a', a' = zjoin e1 a2 x → Wp (e0 + 1) 0 0 mX10_sum 6 [some (vr 152), some (vi dp), some (vi a'), none, none] [] m (KI (fun r m => ∃ D', m = (D', rho n1 W) ∧ Fr mxF D D' ∧ MxR D' W t en (lsum t en g p).1 ∧ (LEnv.ok ε → (lsum t en g p).1.2 = -1 → Val ε (nd + 1) (lsum t en g p).2 r))) := by
    intro c0 e1 hc hpk he1 hl
    have hlt := pkc_lt hpk hc
    have TS := mx_step T good hlt.2
    obtain ⟨kf', rfl⟩ : ∃ kf', kf = kf' + 1 := ⟨kf - 1, by omega⟩
    have hl := hl kf' rfl
    refine ⟨_, hg0 _ (q.1 + 1, -1) e0 rfl TS ((hE.fr hF).fr fS) (by dsimp only; omega) (by dsimp only; omega), ?_⟩
    rintro x m ⟨H, rfl, f2, T2, q2⟩ a' rfl
    refine ih (zjoin e1 a2 x, kf') _ ⟨H, ((g (q.1 + 1, -1)).1, (cs ++ (g (q.1 + 1, -1)).2) ++ [e1]), rfl, (hF.trans fS).trans f2, T2, fun y => ?_, hl, fun ok y => ?_⟩ (Nat.lt_succ_self _)
    · have y : (g (q.1 + 1, -1)).1.2 = -1 := y
      have := hcon (q.1 + 1, -1) rfl (by dsimp only; omega) (by dsimp only; omega) y
      have h1 : q.1 + 1 + ((g (q.1 + 1, -1)).2.length : Int) ≤ (g (q.1 + 1, -1)).1.1 := this.1
      show p.1 ≤ (g (q.1 + 1, -1)).1.1 ∧ en - (g (q.1 + 1, -1)).1.1 ≤ (kf' : Int)
      omega
    · exact (hv ok good).two (q2 ok y) he1
  rw [eat]
  have s31 : (pk t en q.1 = 43 ∨ pk t en q.1 = 45) → Wp (e0 + 1) 0 0 mX10_sum 31 [some (vr 152), some (vi dp), some (vi a2), none, none] [] (E, rho n1 W) (KI (fun r m => ∃ D', m = (D', rho n1 W) ∧ Fr mxF D D' ∧ MxR D' W t en (lsum t en g p).1 ∧ (LEnv.ok ε → (lsum t en g p).1.2 = -1 → Val ε (nd + 1) (lsum t en g p).2 r))) := by
    intro hor
    refine sg_X10_sum_31 ⟨rfl, cP (C_mhere T) ?_⟩
    rw [eat]
    refine ⟨fun n1' => ⟨rfl, fun m2 e2 => ?_⟩, fun c1 => ⟨rfl, fun m2 e2 => ?_⟩⟩
    · have c2 : pk t en q.1 = 45 := hor.resolve_left n1'
      have e2 := e4 m2 e2
      subst e2
      obtain ⟨K, k1, k2⟩ := go 45 (-2) (by decide) c2 (by decide) (fun kf' hk => by
        subst hk
        rw [← hz]
        exact ((if_neg (zskipP_n (fun y => n1' y.2)).1).trans (if_pos (zskipP_y good c2).1)).symm)
      refine cI k1 (fun x m hm => ?_)
      exact ⟨fun _ v e => k2 x m hm v e, fun c => absurd rfl c⟩
    · have e2 := e4 m2 e2
      subst e2
      obtain ⟨K, k1, k2⟩ := go 43 (-1) (by decide) c1 (by decide) (fun kf' hk => by
        subst hk
        rw [← hz]
        exact (if_pos (zskipP_y good c1).1).symm)
      refine cI k1 (fun x m hm => ?_)
      exact ⟨fun c => absurd c (by decide), fun _ v e => k2 x m hm v e⟩
  refine ⟨fun c => s31 (Or.inl c), fun c => ⟨rfl, cP (C_mhere T) ?_⟩⟩
  rw [eat]
  exact ⟨fun c2 => stop (fun y => c y.2) (fun y => c2 y.2), fun c2 => s31 (Or.inr c2)⟩
end MLP
