/-! ===== the model's flows, and what runs over ===== -/
theorem td8 {x : Int} (h : r32 x) : -300000000 ≤ x.tdiv 8 ∧ x.tdiv 8 ≤ 300000000 := by
  unfold r32 at h
  by_cases c : 0 ≤ x
  · rw [Int.tdiv_eq_ediv_of_nonneg c]
    omega
  · have e : x.tdiv 8 = -((-x).tdiv 8) := by rw [Int.neg_tdiv, Int.neg_neg]
    rw [e, Int.tdiv_eq_ediv_of_nonneg (by omega)]
    omega
theorem zov_at {h h' : Int → Int} {rim lid c : Int} (e : h c = h' c) : zov h rim lid c = zov h' rim lid c := by
  unfold zov
  rw [e]
/-- what a ROW of the model is while its flows go: heights and flows are these functions -/
def Mrw (H : DD) (r : Int) (h f : Int → Int) : Prop := ∀ j, 0 ≤ j → j < 20 → H 155 (20 * r + j) = h j ∧ H 156 (20 * r + j) = f j
section MFL
variable {d n1 : Nat} {W : Nat → Nat} {D : DD}
theorem mflow_step {r push x1 i : Int} {H : DD} {h f : Int → Int} {Q : Option (Option AV) → Mem → Prop} (hr : r = 0 ∨ r = 1) (i0 : 0 ≤ i) (i1 : i < H 152 0 - 1) (l1 : H 152 0 ≤ 20) (hh : HOK h) (he : Mrw H r h f)
    (kk : ∀ H' : DD, Fr (mlF r) H H' → Mrw H' r (zmh h f i) (zmf h f i) → Wp (d + 1) 0 0 mX10_flows 145 [some (vr 152), some (vi r), some (vi push), some (vi x1), some (vi (i + 1)), none, none, none] [] (H', rho n1 W) Q) :
    Wp (d + 1) 0 0 mX10_flows 145 [some (vr 152), some (vi r), some (vi push), some (vi x1), some (vi i), none, none, none] [] (H, rho n1 W) Q := by
  obtain ⟨p0, p1⟩ := hh.at i0 (by omega)
  obtain ⟨q0, q1⟩ := hh.at (j := i + 1) (by omega) (by omega)
  clear hh
  obtain ⟨e1, e2⟩ := he i i0 (by omega)
  have e3 := (he (i + 1) (by omega) (by omega)).1
  refine Wp.rng fun hg => ?_
  have rf : r32 (f i) := by
    have := (hg 156 (20 * r + i)).2 (by show KT 156 ≠ 21; decide)
    rw [show mD (H, rho n1 W) 156 (20 * r + i) = f i from e2] at this
    exact this
  clear hg
  obtain ⟨t0, t1⟩ := td8 rf
  have wl : w32 (mD (H, rho n1 W) 152 0 - 1) = H 152 0 - 1 := w32_id (by show _ ≤ H 152 0 - 1; omega) (by show H 152 0 - 1 < _; omega)
  have wv : w32 (w32 (20 * r) + i) = 20 * r + i := by rw [w32_id (x := 20 * r) (by omega) (by omega), w32_id (by omega) (by omega)]
  have wv1 : w32 (20 * r + i + 1) = 20 * r + (i + 1) := by rw [w32_id (by omega) (by omega)]; omega
  have w8' : w32 ((f i).tdiv 8) = (f i).tdiv 8 := w32_id (by omega) (by omega)
  have bv : (0 : Int) ≤ 20 * r + i ∧ 20 * r + i < ((40 : Nat) : Int) := ⟨by omega, by omega⟩
  have bv1 : (0 : Int) ≤ 20 * r + (i + 1) ∧ 20 * r + (i + 1) < ((40 : Nat) : Int) := ⟨by omega, by omega⟩
  have hgo : zgoes h f i = btw ((f i).tdiv 8) (w32 (-(h (i + 1)))) (h i) := by
    unfold zgoes
    rw [w8']
  have fin : ∀ x, x = zgoes h f i → ∀ m2, m2 = sD (H, rho n1 W) 155 (20 * r + i) (w32 (H 155 (20 * r + i) - x)) → ∀ m3, m3 = sD m2 155 (20 * r + (i + 1)) (w32 (mD m2 155 (20 * r + (i + 1)) + x)) →
      (x = (f i).tdiv 8 → ∀ v4, v4 = w32 (i + 1) → Wp (d + 1) 0 0 mX10_flows 145 [some (vr 152), some (vi r), some (vi push), some (vi x1), some (vi v4), none, none, none] [] m3 Q) ∧
      (¬ x = (f i).tdiv 8 → mK m3 (mR m3 152 7) = 20 ∧ ((0 : Int) ≤ 20 * r + i ∧ 20 * r + i < (mN m3 (mR m3 152 7) : Int)) ∧ (∀ m4, m4 = sD m3 (mR m3 152 7) (20 * r + i) (w32 (8 * x)) → ∀ v5, v5 = w32 (i + 1) → Wp (d + 1) 0 0 mX10_flows 145 [some (vr 152), some (vi r), some (vi push), some (vi x1), some (vi v5), none, none, none] [] m4 Q)) := by
    intro x hx m2 e2' m3 e3'
    obtain ⟨B, hB⟩ : ∃ B, B = wr (wr H 155 (20 * r + i) (w32 (h i - x))) 155 (20 * r + (i + 1)) (w32 (h (i + 1) + x)) := ⟨_, rfl⟩
    have e3' : m3 = (B, rho n1 W) := by
      rw [hB, e3', e2', ← e1, ← e3]
      show (wr (wr H 155 _ _) 155 _ (w32 (wr H 155 (20 * r + i) _ 155 (20 * r + (i + 1)) + x)), rho n1 W) = _
      rw [wr_j (by omega)]
    subst e3'
    have fB : Fr (mlF r) H B := by
      rw [hB]
      exact (Fr.refl.wr ⟨Or.inl rfl, by omega, by omega⟩).wr ⟨Or.inl rfl, by omega, by omega⟩
    have b2 : ∀ j, 0 ≤ j → j < 20 → B 155 (20 * r + j) = zmh h f i j := fun j j0 j1 => by
      rw [hB]
      unfold zmh
      rw [← hx]
      by_cases c : j = i + 1
      · rw [c, wr_at, zu_at]
      · rw [wr_j (by omega), zu_ne c]
        by_cases c2 : j = i
        · rw [c2, wr_at, zu_at]
        · rw [wr_j (by omega), zu_ne c2]
          exact (he j j0 j1).1
    have b3 : ∀ j, 0 ≤ j → j < 20 → B 156 (20 * r + j) = f j := fun j j0 j1 => by
      rw [hB, wr_o (by decide), wr_o (by decide)]
      exact (he j j0 j1).2
    have wi : w32 (i + 1) = i + 1 := w32_id (by omega) (by omega)
    refine ⟨fun c v4 e4 => ?_, fun c => ⟨rfl, bv, fun m4 e4 v5 e5 => ?_⟩⟩
    · rw [wi] at e4
      subst e4
      refine kk B fB (fun j j0 j1 => ⟨b2 j j0 j1, ?_⟩)
      rw [b3 j j0 j1]
      unfold zmf
      rw [if_pos (by rw [w8', ← hx, c])]
    · rw [wi] at e5
      subst e5
      have e4 : m4 = (wr B 156 (20 * r + i) (w32 (8 * x)), rho n1 W) := e4
      subst e4
      refine kk _ (fB.wr ⟨Or.inr rfl, by omega, by omega⟩) (fun j j0 j1 => ⟨?_, ?_⟩)
      · rw [wr_o (by decide)]
        exact b2 j j0 j1
      · unfold zmf
        rw [if_neg (by rw [w8', ← hx]; exact c), ← hx]
        by_cases c2 : j = i
        · rw [c2, wr_at, zu_at]
        · rw [wr_j (by omega), zu_ne c2]
          exact b3 j j0 j1
  refine sg_X10_flows_145 ⟨rfl, ?_⟩
  rw [wl, wv]
  refine ⟨fun c => absurd c (by omega), fun _ v1 ev => ?_⟩
  subst ev
  rw [wv1]
  refine ⟨Or.inl rfl, bv, fun v2 e2' => ?_⟩
  have e2' : v2 = (f i).tdiv 8 := by
    rw [e2', show mD (H, rho n1 W) (mR (H, rho n1 W) 152 7) (20 * r + i) = f i from e2, w8']
  subst e2'
  refine ⟨fun c => ⟨Or.inl rfl, bv1, cP C_min fun v3 e3' => ⟨rfl, Or.inl rfl, bv, rfl, bv, fun m2 em2 => ?_⟩⟩, fun c => ⟨Or.inl rfl, bv, cP C_min ⟨rfl, Or.inl rfl, bv, rfl, bv, fun m2 em2 => ?_⟩⟩⟩
  · have hx : v3 = zgoes h f i := by
      rw [e3', show mD (H, rho n1 W) (mR (H, rho n1 W) 152 6) (20 * r + (i + 1)) = h (i + 1) from e3, hgo]
      exact can_neg t0 p0 q0 q1 c
    subst em2
    exact ⟨bv1, bv1, fin v3 hx _ rfl⟩
  · have hx : min ((f i).tdiv 8) (mD (H, rho n1 W) (mR (H, rho n1 W) 152 6) (20 * r + i)) = zgoes h f i := by
      rw [show mD (H, rho n1 W) (mR (H, rho n1 W) 152 6) (20 * r + i) = h i from e1, hgo]
      exact can_pos p0 q0 q1 c
    subst em2
    exact ⟨bv1, bv1, fin _ hx _ rfl⟩
theorem C_mflows {r push : Int} (hr : r = 0 ∨ r = 1) (l0 : 2 ≤ D 152 0) (l1 : D 152 0 ≤ 20) (hh : HOK (mrow D r).1) : Cl (d + 1) 0 0 mX10_flows [vr 152, vi r, vi push] (D, rho n1 W) (KV (fun m => ∃ D', m = (D', rho n1 W) ∧ Fr (mlF r) D D' ∧
      Mrw D' r (zmv (cLast (mcup D)).toNat ((mrow D r).1, drv (cLast (mcup D)) (cSet (mcup D) 0) (dless (cSet (mcup D))) push (mrow D r).1 (mrow D r).2.1 (cHole (mcup D)))).1
        (zmv (cLast (mcup D)).toNat ((mrow D r).1, drv (cLast (mcup D)) (cSet (mcup D) 0) (dless (cSet (mcup D))) push (mrow D r).1 (mrow D r).2.1 (cHole (mcup D)))).2)) := by
  have qd : dless (cSet (mcup D)) = min 100 (w32 (D 153 1 + w32 (D 153 2 * D 153 3))) := by
    unfold dless
    show min 100 (w32 (cut 7 (D 153) 1 + w32 (cut 7 (D 153) 2 * cut 7 (D 153) 3))) = _
    rw [cut_in (by decide) (by decide), cut_in (by decide) (by decide), cut_in (by decide) (by decide)]
  have q0 : cSet (mcup D) 0 = D 153 0 := cut_in (n := 7) (k := 0) (f := D 153) (by decide) (by decide)
  refine Cl_of mb_X10_flows (Nat.le_of_ble_eq_true rfl) (sg_X10_flows_0 ⟨rfl, Or.inl rfl, bnd (N := 7) rfl (by decide) (by decide), bnd (N := 7) rfl (by decide) (by decide), bnd (N := 7) rfl (by decide) (by decide), cP C_min ?_⟩)
  show Wp (d + 1) 0 0 mX10_flows 29 [some (vr 152), some (vi r), some (vi push), some (vi (min 100 (w32 (D 153 1 + w32 (D 153 2 * D 153 3))))), some (vi 0), none, none, none] [] (D, rho n1 W) _
  rw [← qd]
  refine mod_drive (μ := (D, rho n1 W)) ⟨rfl, ⟨rfl, rfl⟩, ⟨rfl, rfl⟩, ⟨rfl, rfl⟩, ⟨rfl, rfl⟩, ⟨rfl, rfl⟩, by show (155 : Nat) ≠ 156; decide, by show (153 : Nat) ≠ 156; decide, by show (154 : Nat) ≠ 156; decide, by show (153 : Nat) ≠ 155; decide, by show (154 : Nat) ≠ 155; decide, l0, l1⟩ (by omega) (by omega) ?_
  obtain ⟨f0, hf0⟩ : ∃ f0, f0 = drv (cLast (mcup D)) (cSet (mcup D) 0) (dless (cSet (mcup D))) push (mrow D r).1 (mrow D r).2.1 (cHole (mcup D)) := ⟨_, rfl⟩
  rw [← hf0]
  obtain ⟨E, hE⟩ : ∃ E, E = wA D 156 (blk r (drv (D 152 0 - 1) (D 153 0) (dless (cSet (mcup D))) push (sh r (D 155)) (sh r (D 156)) (D 154)) (D 156)) := ⟨_, rfl⟩
  show Wp (d + 1) 0 0 mX10_flows 145 _ [] (wA D 156 (blk r (drv (D 152 0 - 1) (D 153 0) (dless (cSet (mcup D))) push (sh r (D 155)) (sh r (D 156)) (D 154)) (D 156)), rho n1 W) _
  rw [← hE]
  have fE : Fr (mlF r) D E := by
    intro q j hn
    rw [hE]
    by_cases c : q = 156
    · subst c
      rw [wA_at]
      exact blk_ne (fun z => hn ⟨Or.inr rfl, z⟩)
    · rw [wA_o c]
  have eE : Mrw E r (mrow D r).1 f0 := by
    intro j j0 j1
    refine ⟨?_, ?_⟩
    · rw [hE, wA_o (by decide)]
      exact (cut_in (n := 20) (f := fun k => D 155 (20 * r + k)) j0 j1).symm
    · rw [hE, wA_at, blk_at j0 j1, hf0, q0]
      have := congrFun (drv_cut (h := sh r (D 155)) (f := sh r (D 156)) (ho := D 154) (last := D 152 0 - 1) (sf := D 153 0) (less := dless (cSet (mcup D))) (push := push) (by omega)) j
      rw [cut_in j0 j1] at this
      exact this.symm
  generalize (mrow D r).1 = h at hh eE
  have hc : cLast (mcup D) = D 152 0 - 1 := rfl
  have main : ∀ (k i : Nat), (i : Int) + k = cLast (mcup D) → ∀ H : DD, Fr (mlF r) D H → Mrw H r (zmv i (h, f0)).1 (zmv i (h, f0)).2 → Wp (d + 1) 0 0 mX10_flows 145 [some (vr 152), some (vi r), some (vi push), some (vi (dless (cSet (mcup D)))), some (vi (i : Int)), none, none, none] [] (H, rho n1 W) (KV (fun m => ∃ D', m = (D', rho n1 W) ∧ Fr (mlF r) D D' ∧ Mrw D' r (zmv (cLast (mcup D)).toNat (h, f0)).1 (zmv (cLast (mcup D)).toNat (h, f0)).2)) := by
    intro k
    induction k with
    | zero =>
      intro i hi H hF hM
      have e0 : H 152 0 = D 152 0 := hF 152 0 (by unfold mlF; omega)
      have hw : w32 (mD (H, rho n1 W) 152 0 - 1) = D 152 0 - 1 := by
        show w32 (H 152 0 - 1) = _
        rw [e0]
        exact w32_id (by omega) (by omega)
      refine sg_X10_flows_145 ⟨rfl, fun _ => ⟨rfl, H, rfl, hF, ?_⟩, fun c => absurd (show w32 (mD (H, rho n1 W) 152 0 - 1) ≤ (i : Int) by rw [hw]; omega) c⟩
      rw [show (cLast (mcup D)).toNat = i by omega]
      exact hM
    | succ k ih =>
      intro i hi H hF hM
      have e0 : H 152 0 = D 152 0 := hF 152 0 (by unfold mlF; omega)
      have hk := HOK_zmv (f := f0) (n := i) (by omega) hh
      refine mflow_step hr (by omega) (by rw [e0]; omega) (by rw [e0]; omega) hk hM (fun H' f' m' => ?_)
      exact ih (i + 1) (by omega) H' (hF.trans f') m'
  exact main (cLast (mcup D)).toNat 0 (by omega) E fE eE
theorem C_mover {r c : Int} (hr : r = 0 ∨ r = 1) (c0 : 0 ≤ c) (c1 : c < 20) : Cl (d + 1) 0 0 mX10_over [vr 152, vi r, vi c] (D, rho n1 W) (KI (fun x m => ∃ D', m = (D', rho n1 W) ∧ Fr (fun q j => (q = 155 ∧ j = 20 * r + c) ∨ (q = 157 ∧ j = r)) D D' ∧ x = zov (fun j => D 155 (20 * r + j)) (D 152 1) (D 153 4) c ∧ D' 155 (20 * r + c) = w32 (D 155 (20 * r + c) - x) ∧ D' 157 r = w32 (D 157 r + x))) := by
  have wv : w32 (w32 (20 * r) + c) = 20 * r + c := by rw [w32_id (x := 20 * r) (by omega) (by omega), w32_id (by omega) (by omega)]
  have bv : (0 : Int) ≤ 20 * r + c ∧ 20 * r + c < ((40 : Nat) : Int) := ⟨by omega, by omega⟩
  have br : (0 : Int) ≤ r ∧ r < ((2 : Nat) : Int) := ⟨by omega, by omega⟩
  refine Cl_of mb_X10_over (Nat.le_of_ble_eq_true rfl) (sg_X10_over_0 fun v1 ev => ?_)
  rw [wv] at ev
  subst ev
  refine ⟨rfl, Or.inl rfl, bv, cP C_max ⟨rfl, Or.inl rfl, bnd (N := 7) rfl (by decide) (by decide), fun v2 e2 => ⟨Or.inl rfl, bv, rfl, bv, fun m2 em => ?_⟩⟩⟩
  have e2 : v2 = zov (fun j => D 155 (20 * r + j)) (D 152 1) (D 153 4) c := by
    rw [e2]
    show w32 (max 0 (w32 (D 155 (20 * r + c) - D 152 1)) - w32 ((w32 (max 0 (w32 (D 155 (20 * r + c) - D 152 1)) * D 153 4)).tdiv 100)) = _
    unfold zov
    dsimp only
    by_cases y : 0 < w32 (D 155 (20 * r + c) - D 152 1)
    · rw [if_pos y, show max 0 (w32 (D 155 (20 * r + c) - D 152 1)) = w32 (D 155 (20 * r + c) - D 152 1) by omega]
    · rw [if_neg y, show max 0 (w32 (D 155 (20 * r + c) - D 152 1)) = 0 by omega, show (0 : Int) * D 153 4 = 0 by omega]
      rfl
  have em : m2 = (wr D 155 (20 * r + c) (w32 (D 155 (20 * r + c) - v2)), rho n1 W) := em
  subst em
  refine ⟨Or.inl rfl, br, rfl, br, fun m3 em3 => ?_⟩
  have em3 : m3 = (wr (wr D 155 (20 * r + c) (w32 (D 155 (20 * r + c) - v2))) 157 r (w32 (D 157 r + v2)), rho n1 W) := em3
  subst em3
  exact ⟨_, rfl, _, rfl, (Fr.refl.wr (Or.inl ⟨rfl, rfl⟩)).wr (Or.inr ⟨rfl, rfl⟩), e2, by rw [wr_o (by decide), wr_at], wr_at⟩
end MFL
