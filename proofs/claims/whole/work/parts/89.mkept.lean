/-! ===== what the model keeps: the state in a row of 105 numbers ===== -/
def svT (X : Int → Int) : Sv := (X 82, X 104, (cut 20 (fun k => X (2 * k)), cut 20 (fun k => X (2 * k + 1)), X 80), (cut 20 (fun k => X (40 + 2 * k)), cut 20 (fun k => X (40 + 2 * k + 1)), X 81), cut 21 (fun k => X (83 + k)))
/-- where the number o of a row lies in the state -/
def pl (o : Int) : Nat × Int := if o < 80 then (if o % 2 = 0 then (155, o / 2) else (156, o / 2)) else if o = 80 then (157, 0) else if o = 81 then (157, 1) else if o = 82 then (152, 5) else if o < 104 then (158, o - 83) else (152, 10)
def mT (D : DD) (o : Int) : Int := D (pl o).1 (pl o).2
def mkv (D : DD) (a : Nat) (b : Int) : Sv := svT (fun o => D a (b + o))
theorem svT_ext {X Y : Int → Int} (h : ∀ o, 0 ≤ o → o < 105 → X o = Y o) : svT X = svT Y := by
  unfold svT
  rw [h 82 (by decide) (by decide), h 104 (by decide) (by decide), h 80 (by decide) (by decide), h 81 (by decide) (by decide),
    cut_ext (f := fun k => X (2 * k)) (g := fun k => Y (2 * k)) (fun k a b => h _ (by omega) (by omega)), cut_ext (f := fun k => X (2 * k + 1)) (g := fun k => Y (2 * k + 1)) (fun k a b => h _ (by omega) (by omega)),
    cut_ext (f := fun k => X (40 + 2 * k)) (g := fun k => Y (40 + 2 * k)) (fun k a b => h _ (by omega) (by omega)), cut_ext (f := fun k => X (40 + 2 * k + 1)) (g := fun k => Y (40 + 2 * k + 1)) (fun k a b => h _ (by omega) (by omega)),
    cut_ext (f := fun k => X (83 + k)) (g := fun k => Y (83 + k)) (fun k a b => h _ (by omega) (by omega))]
theorem mkv_ext {D D' : DD} {a a' : Nat} {b b' : Int} (h : ∀ o, 0 ≤ o → o < 105 → D' a' (b' + o) = D a (b + o)) : mkv D' a' b' = mkv D a b := svT_ext h
theorem pl_h {k : Int} (h1 : k < 40) : pl (2 * k) = (155, k) := by
  unfold pl
  rw [if_pos (by omega), if_pos (by omega), show 2 * k / 2 = k by omega]
theorem pl_f {k : Int} (h1 : k < 40) : pl (2 * k + 1) = (156, k) := by
  unfold pl
  rw [if_pos (by omega), if_neg (by omega), show (2 * k + 1) / 2 = k by omega]
theorem pl_p {k : Int} (h0 : 0 ≤ k) (h1 : k < 21) : pl (83 + k) = (158, k) := by
  unfold pl
  rw [if_neg (by omega), if_neg (by omega), if_neg (by omega), if_neg (by omega), if_pos (by omega), show 83 + k - 83 = k by omega]
theorem pl_inj {o n : Int} (h : (pl o).1 = (pl n).1 ∧ (pl o).2 = (pl n).2) (o0 : 0 ≤ o) (n0 : 0 ≤ n) (o1 : o < 105) (n1 : n < 105) : o = n := by
  unfold pl at h
  (repeat' split at h) <;> (simp only at h; omega)
theorem mst_T {D : DD} : mst D = svT (mT D) := by
  have e : ∀ o, mT D o = D (pl o).1 (pl o).2 := fun o => rfl
  unfold svT mst mrow
  rw [e 82, e 104, e 80, e 81]
  rw [cut_ext (f := fun k => mT D (2 * k)) (g := fun k => D 155 (20 * 0 + k)) (fun k a b => by rw [e, pl_h (by omega)]; show D 155 k = _; rw [show 20 * 0 + k = k by omega]),
    cut_ext (f := fun k => mT D (2 * k + 1)) (g := fun k => D 156 (20 * 0 + k)) (fun k a b => by rw [e, pl_f (by omega)]; show D 156 k = _; rw [show 20 * 0 + k = k by omega]),
    cut_ext (f := fun k => mT D (40 + 2 * k)) (g := fun k => D 155 (20 * 1 + k)) (fun k a b => by rw [e, show 40 + 2 * k = 2 * (20 * 1 + k) by omega, pl_h (by omega)]),
    cut_ext (f := fun k => mT D (40 + 2 * k + 1)) (g := fun k => D 156 (20 * 1 + k)) (fun k a b => by rw [e, show 40 + 2 * k + 1 = 2 * (20 * 1 + k) + 1 by omega, pl_f (by omega)]),
    cut_ext (f := fun k => mT D (83 + k)) (g := D 158) (fun k a b => by rw [e, pl_p (by omega) (by omega)])]
  rfl
def pkF (i : Int) (q : Nat) (j : Int) : Prop := (q = 177 ∧ 105 * i ≤ j ∧ j < 105 * i + 105) ∨ (q = 152 ∧ j = 46)
def bbF (q : Nat) (j : Int) : Prop := (q = 152 ∧ (j = 5 ∨ j = 10 ∨ j = 46)) ∨ (155 ≤ q ∧ q ≤ 158)
theorem pl_bb (o : Int) : (pl o).1 ≠ 177 ∧ ¬ ((pl o).1 = 152 ∧ (pl o).2 = 46) ∧ bbF (pl o).1 (pl o).2 := by
  unfold pl bbF
  (repeat' split) <;> (dsimp only; omega)
section MKE
variable {d n1 : Nat} {W : Nat → Nat} {D : DD}
/-- so much is put -/
def PUT (D : DD) (i n : Int) (H : DD) : Prop := Fr (pkF i) D H ∧ H 152 46 = 105 * i + n ∧ ∀ o, 0 ≤ o → o < n → H 177 (105 * i + o) = mT D o
theorem PUT.T {i n o : Int} {H : DD} (h : PUT D i n H) : H (pl o).1 (pl o).2 = mT D o := h.1 _ _ (fun z => by
  obtain ⟨p1, p2, -⟩ := pl_bb o
  unfold pkF at z
  rcases z with z | z
  · exact p1 z.1
  · exact p2 z)
theorem C_mput {i n x : Int} {H : DD} (i0 : 0 ≤ i) (i1 : i ≤ 3) (n0 : 0 ≤ n) (n1' : n < 105) (h : PUT D i n H) (hx : x = mT D n) : Cl d 0 0 mX10_put [vr 152, vi x] (H, rho n1 W) (KV (fun m => ∃ H', m = (H', rho n1 W) ∧ PUT D i (n + 1) H')) := by
  obtain ⟨hF, h46, hc⟩ := h
  refine Cl_of mb_X10_put (Nat.le_of_ble_eq_true rfl) (sg_X10_put_0 ⟨rfl, rfl, ?_⟩)
  rw [show mD (H, rho n1 W) 152 46 = 105 * i + n from h46]
  refine ⟨bnd (N := 420) rfl (by omega) (by show 105 * i + n < 420; omega), fun m1 e1 m2 e2 => ?_⟩
  have e1 : m1 = (wr H 177 (105 * i + n) x, rho n1 W) := e1
  subst e1
  have e2 : m2 = (wr (wr H 177 (105 * i + n) x) 152 46 (105 * i + (n + 1)), rho n1 W) := by
    rw [e2]
    show (wr _ 152 46 (w32 (wr H 177 (105 * i + n) x 152 46 + 1)), rho n1 W) = _
    rw [wr_o (by decide), h46, w32_id (by omega) (by omega), show 105 * i + n + 1 = 105 * i + (n + 1) by omega]
    rfl
  subst e2
  refine ⟨rfl, _, rfl, (hF.wr (Or.inl ⟨rfl, by omega, by omega⟩)).wr (Or.inr ⟨rfl, rfl⟩), wr_at, fun o a b => ?_⟩
  rw [wr_o (by decide)]
  by_cases c : o = n
  · rw [c, wr_at, hx]
  · rw [wr_j (by omega)]
    exact hc o a (by omega)
theorem C_mputBy {i : Int} (i0 : 0 ≤ i) (i1 : i ≤ 3) : Cl (d + 1) 0 0 mX10_putBy [vr 152, vi i] (D, rho n1 W) (KV (fun m => ∃ D', m = (D', rho n1 W) ∧ Fr (pkF i) D D' ∧ mkv D' 177 (105 * i) = mst D)) := by
  refine Cl_of mb_X10_putBy (Nat.le_of_ble_eq_true rfl) (sg_X10_putBy_0 ⟨rfl, fun m1 e1 => ?_⟩)
  rw [w32_id (x := 105 * i) (by omega) (by omega)] at e1
  have e1 : m1 = (wr D 152 46 (105 * i), rho n1 W) := e1
  subst e1
  have P0 : PUT D i 0 (wr D 152 46 (105 * i)) := ⟨Fr.refl.wr (Or.inr ⟨rfl, rfl⟩), by rw [wr_at]; omega, fun o a b => by omega⟩
  refine Wp.loop (σ := Int) (fun k => [some (vr 152), some (vi i), some (vi k), none, none, none])
    (fun k μ => ∃ H : DD, μ = (H, rho n1 W) ∧ 0 ≤ k ∧ k ≤ 40 ∧ PUT D i (2 * k) H)
    (fun k => (40 - k).toNat) ?_ 0 _ ⟨_, rfl, by decide, by decide, P0⟩
  rintro k μ ⟨H, rfl, k0, k1, P⟩ ih
  refine sg_X10_putBy_10 ⟨fun c => ⟨rfl, Or.inl rfl, bnd (N := 2) rfl (by decide) (by decide), ?_⟩, fun c => ⟨rfl, Or.inl rfl, bnd (N := 40) rfl k0 (by omega), ?_⟩⟩
  · have P : PUT D i 80 H := by rw [show (80 : Int) = 2 * k by omega]; exact P
    refine cV (C_mput i0 i1 (by decide) (by decide) P (P.T (o := 80))) ?_
    rintro m ⟨H1, rfl, P1⟩
    refine ⟨rfl, Or.inl rfl, bnd (N := 2) rfl (by decide) (by decide), cV (C_mput (n := 81) i0 i1 (by decide) (by decide) P1 (P1.T (o := 81))) ?_⟩
    rintro m ⟨H2, rfl, P2⟩
    refine ⟨rfl, cV (C_mput (n := 82) i0 i1 (by decide) (by decide) P2 (P2.T (o := 82))) ?_⟩
    rintro m ⟨H3, rfl, P3⟩
    refine ⟨rfl, ka rfl, fun v1 ev => ?_⟩
    have ev : v1 = 21 := ev
    subst ev
    refine Wp.loop (σ := Int) (fun k => [some (vr 152), some (vi i), some (vr 158), some (vi 21), some (vi k), none])
      (fun k μ => ∃ H : DD, μ = (H, rho n1 W) ∧ 0 ≤ k ∧ k ≤ 21 ∧ PUT D i (83 + k) H)
      (fun k => (21 - k).toNat) ?_ 0 _ ⟨H3, rfl, by decide, by decide, P3⟩
    rintro k μ ⟨H, rfl, k0, k1, P⟩ ih
    refine sg_X10_putBy_81 ⟨fun c => ⟨rfl, ?_⟩, fun c => ⟨Or.inl rfl, bnd (N := 21) rfl k0 (by omega), fun v1 ev => ⟨rfl, ?_⟩⟩⟩
    · have P : PUT D i 104 H := by rw [show (104 : Int) = 83 + k by omega]; exact P
      refine cV (C_mput i0 i1 (by decide) (by decide) P (P.T (o := 104))) ?_
      rintro m ⟨H', rfl, P'⟩
      refine ⟨rfl, H', rfl, P'.1, ?_⟩
      rw [mst_T]
      exact svT_ext (fun o a b => P'.2.2 o a b)
    · have hv := P.T (o := 83 + k)
      rw [pl_p k0 (by omega)] at hv
      refine cV (C_mput i0 i1 (by omega) (by omega) P (ev.trans hv)) ?_
      rintro m ⟨H', rfl, P'⟩ v2 e2
      rw [w32_id (by omega) (by omega)] at e2
      subst e2
      exact ih (k + 1) _ ⟨H', rfl, by omega, by omega, by rw [show 83 + (k + 1) = 83 + k + 1 by omega]; exact P'⟩ (by omega)
  · have hv := P.T (o := 2 * k)
    rw [pl_h (by omega)] at hv
    refine cV (C_mput i0 i1 (by omega) (by omega) P hv) ?_
    rintro m ⟨H1, rfl, P1⟩
    have hv1 := P1.T (o := 2 * k + 1)
    rw [pl_f (by omega)] at hv1
    refine ⟨rfl, Or.inl rfl, bnd (N := 40) rfl k0 (by omega), cV (C_mput i0 i1 (by omega) (by omega) P1 hv1) ?_⟩
    rintro m ⟨H2, rfl, P2⟩ v2 e2
    rw [w32_id (by omega) (by omega)] at e2
    subst e2
    exact ih (k + 1) _ ⟨H2, rfl, by omega, by omega, by rw [show 2 * (k + 1) = 2 * k + 1 + 1 by omega]; exact P2⟩ (by omega)
/-- so much is taken -/
def TAK (D : DD) (i n : Int) (H : DD) : Prop := Fr bbF D H ∧ H 152 46 = 105 * i + n ∧ ∀ o, 0 ≤ o → o < n → mT H o = D 177 (105 * i + o)
/-- taken, not yet laid -/
def TAKx (D : DD) (i n : Int) (H : DD) : Prop := Fr bbF D H ∧ H 152 46 = 105 * i + (n + 1) ∧ ∀ o, 0 ≤ o → o < n → mT H o = D 177 (105 * i + o)
theorem C_mtake {i n : Int} {H : DD} (i0 : 0 ≤ i) (i1 : i ≤ 3) (n0 : 0 ≤ n) (n1' : n < 105) (h : TAK D i n H) : Cl d 0 0 mX10_take [vr 152] (H, rho n1 W) (KI (fun x m => x = D 177 (105 * i + n) ∧ ∃ H', m = (H', rho n1 W) ∧ TAKx D i n H')) := by
  obtain ⟨hF, h46, hc⟩ := h
  refine Cl_of mb_X10_take (Nat.le_of_ble_eq_true rfl) (sg_X10_take_0 ⟨rfl, ?_⟩)
  rw [show mD (H, rho n1 W) 152 46 = 105 * i + n from h46, w32_id (x := 105 * i + n + 1) (by omega) (by omega)]
  intro m1 e1
  have e1 : m1 = (wr H 152 46 (105 * i + (n + 1)), rho n1 W) := by
    rw [e1, show 105 * i + n + 1 = 105 * i + (n + 1) by omega]
    rfl
  subst e1
  have wn : w32 (mD (wr H 152 46 (105 * i + (n + 1)), rho n1 W) 152 46 - 1) = 105 * i + n := by
    show w32 (wr H 152 46 (105 * i + (n + 1)) 152 46 - 1) = _
    rw [wr_at, w32_id (by omega) (by omega)]
    omega
  rw [wn]
  refine ⟨Or.inl rfl, bnd (N := 420) rfl (by omega) (by show 105 * i + n < 420; omega), _, rfl, ?_, _, rfl, hF.wr (Or.inl ⟨rfl, Or.inr (Or.inr rfl)⟩), wr_at, fun o a b => ?_⟩
  · show wr H 152 46 (105 * i + (n + 1)) 177 (105 * i + n) = _
    rw [wr_o (by decide), hF 177 _ (by unfold bbF; omega)]
  · rw [← hc o a b]
    have := (pl_bb o).2.1
    unfold mT wr
    rw [if_neg this]
theorem TAKx.lay {i n x : Int} {H : DD} {q : Nat} {j : Int} (n0 : 0 ≤ n) (n1' : n < 105) (h : TAKx D i n H) (hx : x = D 177 (105 * i + n)) (hp : pl n = (q, j)) : TAK D i (n + 1) (wr H q j x) := by
  obtain ⟨hF, h46, hc⟩ := h
  have p := pl_bb n
  rw [hp] at p
  refine ⟨hF.wr p.2.2, ?_, fun o a b => ?_⟩
  · rw [← h46]
    unfold wr
    exact if_neg (fun z => p.2.1 ⟨z.1.symm, z.2.symm⟩)
  · by_cases c : o = n
    · rw [c]
      unfold mT
      rw [hp, wr_at, hx]
    · rw [← hc o a (by omega)]
      unfold mT wr
      refine if_neg (fun z => c (pl_inj ?_ a n0 (by omega) n1'))
      rw [hp]
      exact z
theorem C_mbringBack {i : Int} (i0 : 0 ≤ i) (i1 : i ≤ 3) : Cl (d + 1) 0 0 mX10_bringBack [vr 152, vi i] (D, rho n1 W) (KV (fun m => ∃ D', m = (D', rho n1 W) ∧ Fr bbF D D' ∧ mst D' = mkv D 177 (105 * i))) := by
  refine Cl_of mb_X10_bringBack (Nat.le_of_ble_eq_true rfl) (sg_X10_bringBack_0 ⟨rfl, fun m1 e1 => ?_⟩)
  rw [w32_id (x := 105 * i) (by omega) (by omega)] at e1
  have e1 : m1 = (wr D 152 46 (105 * i), rho n1 W) := e1
  subst e1
  have P0 : TAK D i 0 (wr D 152 46 (105 * i)) := ⟨Fr.refl.wr (Or.inl ⟨rfl, Or.inr (Or.inr rfl)⟩), by rw [wr_at]; omega, fun o a b => by omega⟩
  refine Wp.loop (σ := Int) (fun k => [some (vr 152), some (vi i), some (vi k)])
    (fun k μ => ∃ H : DD, μ = (H, rho n1 W) ∧ 0 ≤ k ∧ k ≤ 40 ∧ TAK D i (2 * k) H)
    (fun k => (40 - k).toNat) ?_ 0 _ ⟨_, rfl, by decide, by decide, P0⟩
  rintro k μ ⟨H, rfl, k0, k1, P⟩ ih
  refine sg_X10_bringBack_10 ⟨fun c => ⟨rfl, ?_⟩, fun c => ⟨rfl, ?_⟩⟩
  · have P : TAK D i 80 H := by rw [show (80 : Int) = 2 * k by omega]; exact P
    refine cI (C_mtake i0 i1 (by decide) (by decide) P) ?_
    rintro x m ⟨hx, H1, rfl, Q1⟩
    refine ⟨rfl, bnd (N := 2) rfl (by decide) (by decide), fun m2 e2 => ?_⟩
    have e2 : m2 = (wr H1 157 0 x, rho n1 W) := e2
    subst e2
    have P1 := Q1.lay (q := 157) (j := 0) (by decide) (by decide) hx rfl
    refine ⟨rfl, cI (C_mtake (n := 81) i0 i1 (by decide) (by decide) P1) ?_⟩
    rintro x2 m ⟨hx2, H2, rfl, Q2⟩
    refine ⟨rfl, bnd (N := 2) rfl (by decide) (by decide), fun m2 e2 => ?_⟩
    have e2 : m2 = (wr H2 157 1 x2, rho n1 W) := e2
    subst e2
    have P2 := Q2.lay (q := 157) (j := 1) (by decide) (by decide) hx2 rfl
    refine ⟨rfl, cI (C_mtake (n := 82) i0 i1 (by decide) (by decide) P2) ?_⟩
    rintro x3 m ⟨hx3, H3, rfl, Q3⟩
    refine ⟨rfl, fun m2 e2 => ?_⟩
    have e2 : m2 = (wr H3 152 5 x3, rho n1 W) := e2
    subst e2
    have P3 := Q3.lay (q := 152) (j := 5) (by decide) (by decide) hx3 rfl
    refine Wp.loop (σ := Int) (fun k => [some (vr 152), some (vi i), some (vi k)])
      (fun k μ => ∃ H : DD, μ = (H, rho n1 W) ∧ 0 ≤ k ∧ k ≤ 21 ∧ TAK D i (83 + k) H)
      (fun k => (21 - k).toNat) ?_ 0 _ ⟨_, rfl, by decide, by decide, P3⟩
    rintro k μ ⟨H, rfl, k0, k1, P⟩ ih
    refine sg_X10_bringBack_72 ⟨fun c => ⟨rfl, ?_⟩, fun c => ⟨rfl, ?_⟩⟩
    · have P : TAK D i 104 H := by rw [show (104 : Int) = 83 + k by omega]; exact P
      refine cI (C_mtake i0 i1 (by decide) (by decide) P) ?_
      rintro x m ⟨hx, H1, rfl, Q1⟩
      refine ⟨rfl, fun m2 e2 => ?_⟩
      have e2 : m2 = (wr H1 152 10 x, rho n1 W) := e2
      subst e2
      have P1 := Q1.lay (q := 152) (j := 10) (by decide) (by decide) hx rfl
      refine ⟨rfl, _, rfl, P1.1, ?_⟩
      rw [mst_T]
      exact svT_ext (fun o a b => P1.2.2 o a b)
    · refine cI (C_mtake i0 i1 (by omega) (by omega) P) ?_
      rintro x m ⟨hx, H1, rfl, Q1⟩
      refine ⟨rfl, bnd (N := 21) rfl k0 (by omega), fun m2 e2 v2 ev => ?_⟩
      have e2 : m2 = (wr H1 158 k x, rho n1 W) := e2
      subst e2
      have P1 := Q1.lay (by omega) (by omega) hx (pl_p k0 (by omega))
      rw [w32_id (by omega) (by omega)] at ev
      subst ev
      exact ih (k + 1) _ ⟨_, rfl, by omega, by omega, by rw [show 83 + (k + 1) = 83 + k + 1 by omega]; exact P1⟩ (by omega)
  · refine cI (C_mtake i0 i1 (by omega) (by omega) P) ?_
    rintro x m ⟨hx, H1, rfl, Q1⟩
    refine ⟨rfl, bnd (N := 40) rfl k0 (by omega), fun m2 e2 => ?_⟩
    have e2 : m2 = (wr H1 155 k x, rho n1 W) := e2
    subst e2
    have P1 := Q1.lay (by omega) (by omega) hx (pl_h (by omega))
    refine ⟨rfl, cI (C_mtake i0 i1 (by omega) (by omega) P1) ?_⟩
    rintro x2 m ⟨hx2, H2, rfl, Q2⟩
    refine ⟨rfl, bnd (N := 40) rfl k0 (by omega), fun m3 e3 v2 ev => ?_⟩
    have e3 : m3 = (wr H2 156 k x2, rho n1 W) := e3
    subst e3
    have P2 := Q2.lay (by omega) (by omega) hx2 (pl_f (by omega))
    rw [w32_id (by omega) (by omega)] at ev
    subst ev
    exact ih (k + 1) _ ⟨_, rfl, by omega, by omega, by rw [show 2 * (k + 1) = 2 * k + 1 + 1 by omega]; exact P2⟩ (by omega)
end MKE
