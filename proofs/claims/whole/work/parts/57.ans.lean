/-! ===== the class's calls that only answer, or throw ===== -/
def KX (P : Option Int → Mem → Prop) : Option (Option AV) → Mem → Prop := fun r m => (∃ x, r = some (some (vi x)) ∧ P (some x) m) ∨ (r = none ∧ P none m)
def KXL (P : Option Int → Mem → Prop) : Option (Option AV) → Mem → Prop := fun r m => (∃ x, r = some (some (vl x)) ∧ P (some x) m) ∨ (r = none ∧ P none m)
def zcon (h : Int → Int) : Nat → Int
  | 0 => 0
  | k + 1 => w32 (zcon h k + h k)
def zgreat (h : Int → Int) : Nat → Int
  | 0 => 0
  | k + 1 => max (zgreat h k) (h k)
def sRow (s : Sv) (r : Int) : Rv := if r = 0 then sAl s else sAc s
def zcell (c : Cv) (s : Sv) (r i what : Int) : Option Int :=
  if (0 ≤ r ∧ r ≤ 1) ∧ (0 ≤ i ∧ i ≤ cLast c) ∧ (0 ≤ what ∧ what ≤ 1) then some (if what = 0 then (sRow s r).1 i else if i < cLast c then (sRow s r).2.1 i else 0) else none
def zof (c : Cv) (s : Sv) (r what : Int) : Option Int :=
  if (0 ≤ r ∧ r ≤ 1) ∧ (0 ≤ what ∧ what ≤ 3) then some (if what = 0 then zslope c (sRow s r) else if what = 1 then (sRow s r).2.2 else if what = 2 then zcon (sRow s r).1 (cLast c + 1).toNat else zgreat (sRow s r).1 (cLast c + 1).toNat) else none
def zgives (c : Cv) (lw : Int → Option (List Int)) (s : Sv) (l push : Int) : Option Int :=
  if (lw l).isSome = true ∧ (-500 ≤ push ∧ push ≤ 500) then some (zgiven c (lw l) s push) else none
section ANS
variable {d n1 : Nat} {W : Nat → Nat} {D : DD}
theorem stv_row {x : Nat} {r : Int} (hx : x = if r = 0 then 8 + 1 else 8 + 4) : rowv D x = sRow (stv D 8) r := by
  unfold sRow
  rw [hx]
  split <;> rfl
theorem row_of {x : Nat} {r : Int} (hx : x = if r = 0 then 8 + 1 else 8 + 4) : SRow (rho n1 W) x ∧ (x = 9 ∨ x = 12) := by
  rw [hx]
  split
  · exact ⟨st8.2.2.2.2.1, Or.inl rfl⟩
  · exact ⟨st8.2.2.2.2.2.1, Or.inr rfl⟩
theorem C_cell {r i w : Int} (l0 : 1 ≤ D 5 0) (l1 : D 5 0 ≤ 19) : Cl (d + 7) 1 6 mX9_cell [vr 4, vi r, vi i, vi w] (D, rho n1 W) (KX (fun x m => x = zcell (cupv D 5) (stv D 8) r i w ∧ m = (D, rho n1 W))) := by
  have no : ¬ ((0 ≤ r ∧ r ≤ 1) ∧ (0 ≤ i ∧ i ≤ D 5 0) ∧ (0 ≤ w ∧ w ≤ 1)) → KX (fun x m => x = zcell (cupv D 5) (stv D 8) r i w ∧ m = (D, rho n1 W)) none (D, rho n1 W) := fun h => Or.inr ⟨rfl, (if_neg h).symm, rfl⟩
  refine Cl_of mb_X9_cell (Nat.le_of_ble_eq_true rfl) (sg_X9_cell_0 (cB C_isRow (fun hx => yE ⟨rfl, rfl, cB C_isIn (fun hy => yE (cB C_isIn (fun hz => yN ⟨rfl, rfl, cR (C_rowOf (D := D) (o := 8) st8) ?_⟩) (fun hz => nN ⟨by decide, by decide, no (fun q => hz q.2.2)⟩))) (fun hy => nE ⟨by decide, by decide, no (fun q => hy q.2.1)⟩)⟩) (fun hx => nE ⟨by decide, by decide, no (fun q => hx q.1)⟩)))
  rintro x m ⟨hxx, rfl⟩
  obtain ⟨hr, hx9⟩ := row_of (n1 := n1) (W := W) hxx
  have hrv := stv_row (D := D) hxx
  obtain ⟨f1, f2, f3, f4⟩ := hr.f
  have hy : 0 ≤ i ∧ i ≤ D 5 0 := hy
  have e0 : mR (D, rho n1 W) x 0 = x + 1 := hr.2.1
  have e1 : mR (D, rho n1 W) x 1 = x + 2 := hr.2.2.1
  have yes : ∀ v, v = (if w = 0 then (sRow (stv D 8) r).1 i else if i < cLast (cupv D 5) then (sRow (stv D 8) r).2.1 i else 0) → KX (fun x m => x = zcell (cupv D 5) (stv D 8) r i w ∧ m = (D, rho n1 W)) (some (some (vi v))) (D, rho n1 W) := fun v hv => Or.inl ⟨v, rfl, by unfold zcell; rw [if_pos ⟨hx, hy, hz⟩, hv], rfl⟩
  refine ⟨fun c => ⟨rfl, rfl, fun c2 => yes _ ?_, fun c2 => ⟨hr.1, Or.inl f2, bnd (N := 20) f4 hy.1 (by omega), yes _ ?_⟩⟩, fun c => ⟨hr.1, Or.inl f1, bnd (N := 20) f3 hy.1 (by omega), yes _ ?_⟩⟩
  · change D 5 0 ≤ i at c2
    rw [if_neg c, if_neg (show ¬ i < cLast (cupv D 5) from by show ¬ i < D 5 0; omega)]
  · change ¬ D 5 0 ≤ i at c2
    rw [if_neg c, if_pos (show i < cLast (cupv D 5) from by show i < D 5 0; omega), ← hrv, e1]
    exact (cut_in hy.1 (by omega)).symm
  · rw [if_pos c, ← hrv, e0]
    exact (cut_in hy.1 (by omega)).symm
theorem C_contents {a : Nat} {ρ : Rho} (hr : SRow ρ a) (hc : SCup ρ 5) (l0 : 1 ≤ D 5 0) (l1 : D 5 0 ≤ 19) : Cl d 0 0 mX4_contents [vr a, vr 5] (D, ρ) (KI (fun x m => x = zcon (rowv D a).1 (D 5 0 + 1).toNat ∧ m = (D, ρ))) := by
  obtain ⟨f1, f2, f3, f4⟩ := hr.f
  refine Cl_of mb_X4_contents (Nat.le_of_ble_eq_true rfl) (sg_X4_contents_0 ?_)
  refine Wp.loop (σ := Int × Int) (fun z => [some (vr a), some (vr 5), some (vi z.1), some (vi z.2)])
    (fun z μ => μ = (D, ρ) ∧ 0 ≤ z.2 ∧ z.2 ≤ D 5 0 + 1 ∧ z.1 = zcon (rowv D a).1 z.2.toNat)
    (fun z => (D 5 0 + 1 - z.2).toNat) ?_ (0, 0) _ ⟨rfl, by decide, by dsimp only; omega, rfl⟩
  rintro ⟨s, i⟩ μ ⟨rfl, i0, i1, hs⟩ ih
  dsimp only at i0 i1 hs ih ⊢
  have e0 : mR (D, ρ) a 0 = a + 1 := hr.2.1
  refine sg_X4_contents_4 ⟨hc.1, fun c => ⟨_, rfl, ?_, rfl⟩, fun c => ⟨hr.1, Or.inl f1, bnd (N := 20) f3 i0 ?_, fun v1 e1 v2 e2 => ?_⟩⟩
  · change D 5 0 < i at c
    rw [hs, show i = D 5 0 + 1 by omega]
  · change ¬ D 5 0 < i at c
    show i < 20
    omega
  · change ¬ D 5 0 < i at c
    rw [w32_id (x := i + 1) (by omega) (by omega)] at e2
    subst e1 e2
    refine ih (_, i + 1) _ ⟨rfl, by dsimp only; omega, by dsimp only; omega, ?_⟩ (by dsimp only; omega)
    dsimp only
    rw [show (i + 1).toNat = i.toNat + 1 by omega, e0, hs]
    show w32 (_ + D (a + 1) i) = w32 (_ + cut 20 (D (a + 1)) ((i.toNat : Nat) : Int))
    rw [show ((i.toNat : Nat) : Int) = i by omega, cut_in i0 (by omega)]
theorem C_greatest {a : Nat} {ρ : Rho} (hr : SRow ρ a) (hc : SCup ρ 5) (l0 : 1 ≤ D 5 0) (l1 : D 5 0 ≤ 19) : Cl (d + 1) 0 0 mX4_greatest [vr a, vr 5] (D, ρ) (KI (fun x m => x = zgreat (rowv D a).1 (D 5 0 + 1).toNat ∧ m = (D, ρ))) := by
  obtain ⟨f1, f2, f3, f4⟩ := hr.f
  refine Cl_of mb_X4_greatest (Nat.le_of_ble_eq_true rfl) (sg_X4_greatest_0 ?_)
  refine Wp.loop (σ := Int × Int) (fun z => [some (vr a), some (vr 5), some (vi z.1), some (vi z.2)])
    (fun z μ => μ = (D, ρ) ∧ 0 ≤ z.2 ∧ z.2 ≤ D 5 0 + 1 ∧ z.1 = zgreat (rowv D a).1 z.2.toNat)
    (fun z => (D 5 0 + 1 - z.2).toNat) ?_ (0, 0) _ ⟨rfl, by decide, by dsimp only; omega, rfl⟩
  rintro ⟨s, i⟩ μ ⟨rfl, i0, i1, hs⟩ ih
  dsimp only at i0 i1 hs ih ⊢
  have e0 : mR (D, ρ) a 0 = a + 1 := hr.2.1
  refine sg_X4_greatest_4 ⟨hc.1, fun c => ⟨_, rfl, ?_, rfl⟩, fun c => ⟨hr.1, Or.inl f1, bnd (N := 20) f3 i0 ?_, cP C_max fun v2 e2 => ?_⟩⟩
  · change D 5 0 < i at c
    rw [hs, show i = D 5 0 + 1 by omega]
  · change ¬ D 5 0 < i at c
    show i < 20
    omega
  · change ¬ D 5 0 < i at c
    rw [w32_id (x := i + 1) (by omega) (by omega)] at e2
    subst e2
    refine ih (_, i + 1) _ ⟨rfl, by dsimp only; omega, by dsimp only; omega, ?_⟩ (by dsimp only; omega)
    dsimp only
    rw [show (i + 1).toNat = i.toNat + 1 by omega, e0, hs]
    show max _ (D (a + 1) i) = max _ (cut 20 (D (a + 1)) ((i.toNat : Nat) : Int))
    rw [show ((i.toNat : Nat) : Int) = i by omega, cut_in i0 (by omega)]
theorem C_restlessness {a : Nat} {ρ : Rho} (hr : SRow ρ a) (hc : SCup ρ 5) (l0 : 1 ≤ D 5 0) (l1 : D 5 0 ≤ 19) : Cl d 0 0 mX4_restlessness [vr a, vr 5] (D, ρ) (KL (fun x m => x = zstir (cupv D 5) (rowv D a) (D 5 0 + 1).toNat ∧ m = (D, ρ))) := by
  obtain ⟨f1, f2, f3, f4⟩ := hr.f
  refine Cl_of mb_X4_restlessness (Nat.le_of_ble_eq_true rfl) (sg_X4_restlessness_0 ?_)
  refine Wp.loop (σ := Int × Int) (fun z => [some (vr a), some (vr 5), some (vl z.1), none, some (vi z.2), none, none, none, none])
    (fun z μ => μ = (D, ρ) ∧ 0 ≤ z.2 ∧ z.2 ≤ D 5 0 + 1 ∧ z.1 = zstir (cupv D 5) (rowv D a) z.2.toNat)
    (fun z => (D 5 0 + 1 - z.2).toNat) ?_ (0, 0) _ ⟨rfl, by decide, by dsimp only; omega, rfl⟩
  rintro ⟨s, i⟩ μ ⟨rfl, i0, i1, hs⟩ ih
  dsimp only at i0 i1 hs ih ⊢
  have e0 : mR (D, ρ) a 0 = a + 1 := hr.2.1
  have e9 : mR (D, ρ) a 1 = a + 2 := hr.2.2.1
  have step : i ≤ D 5 0 → zstir (cupv D 5) (rowv D a) (i + 1).toNat = w64 (s + w64 (w64 (w32 (D (a + 1) i - D 5 2) * w32 (D (a + 1) i - D 5 2)) + (if D 5 0 ≤ i then w64 (0 * 0) else w64 (w32 ((D (a + 2) i).tdiv 8) * w32 ((D (a + 2) i).tdiv 8))))) := fun h => by
    rw [show (i + 1).toNat = i.toNat + 1 by omega, hs]
    show w64 (_ + w64 (w64 (w32 (cut 20 (D (a + 1)) ((i.toNat : Nat) : Int) - D 5 2) * w32 (cut 20 (D (a + 1)) ((i.toNat : Nat) : Int) - D 5 2)) + (if D 5 0 ≤ ((i.toNat : Nat) : Int) then w64 (0 * 0) else w64 (w32 ((cut 20 (D (a + 2)) ((i.toNat : Nat) : Int)).tdiv 8) * w32 ((cut 20 (D (a + 2)) ((i.toNat : Nat) : Int)).tdiv 8))))) = _
    rw [show ((i.toNat : Nat) : Int) = i by omega, cut_in i0 (by omega), cut_in i0 (by omega)]
  refine sg_X4_restlessness_5 ⟨hc.1, fun c => ⟨_, rfl, ?_, rfl⟩, fun c => ⟨hr.1, Or.inl f1, bnd (N := 20) f3 i0 ?_, fun c2 v e => ?_, fun c2 => ⟨Or.inl f2, bnd (N := 20) f4 i0 ?_, fun v e => ?_⟩⟩⟩
  · change D 5 0 < i at c
    rw [hs, show i = D 5 0 + 1 by omega]
  · change ¬ D 5 0 < i at c
    show i < 20
    omega
  · change ¬ D 5 0 < i at c
    change D 5 0 ≤ i at c2
    rw [w32_id (x := i + 1) (by omega) (by omega)] at e
    subst e
    refine ih (_, i + 1) _ ⟨rfl, by dsimp only; omega, by dsimp only; omega, ?_⟩ (by dsimp only; omega)
    dsimp only
    rw [step (by omega), if_pos c2, e0]
    rfl
  · change ¬ D 5 0 < i at c
    show i < 20
    omega
  · change ¬ D 5 0 < i at c
    change ¬ D 5 0 ≤ i at c2
    rw [w32_id (x := i + 1) (by omega) (by omega)] at e
    subst e
    refine ih (_, i + 1) _ ⟨rfl, by dsimp only; omega, by dsimp only; omega, ?_⟩ (by dsimp only; omega)
    dsimp only
    rw [step (by omega), if_neg c2, e0, e9]
    rfl
theorem C_of {r w : Int} (l0 : 1 ≤ D 5 0) (l1 : D 5 0 ≤ 19) : Cl (d + 7) 1 6 mX9_of [vr 4, vi r, vi w] (D, rho n1 W) (KX (fun x m => x = zof (cupv D 5) (stv D 8) r w ∧ m = (D, rho n1 W))) := by
  have no : ¬ ((0 ≤ r ∧ r ≤ 1) ∧ (0 ≤ w ∧ w ≤ 3)) → KX (fun x m => x = zof (cupv D 5) (stv D 8) r w ∧ m = (D, rho n1 W)) none (D, rho n1 W) := fun h => Or.inr ⟨rfl, (if_neg h).symm, rfl⟩
  refine Cl_of mb_X9_of (Nat.le_of_ble_eq_true rfl) (sg_X9_of_0 (cB C_isRow (fun hx => yE (cB C_isIn (fun hy => yN ⟨rfl, rfl, cR (C_rowOf (D := D) (o := 8) st8) ?_⟩) (fun hy => nN ⟨by decide, by decide, no (fun q => hy q.2)⟩))) (fun hx => nE ⟨by decide, by decide, no (fun q => hx q.1)⟩)))
  rintro x m ⟨hxx, rfl⟩
  obtain ⟨hr, hx9⟩ := row_of (n1 := n1) (W := W) hxx
  have hrv := stv_row (D := D) hxx
  have yes : ∀ v, v = (if w = 0 then zslope (cupv D 5) (sRow (stv D 8) r) else if w = 1 then (sRow (stv D 8) r).2.2 else if w = 2 then zcon (sRow (stv D 8) r).1 (cLast (cupv D 5) + 1).toNat else zgreat (sRow (stv D 8) r).1 (cLast (cupv D 5) + 1).toNat) → KX (fun x m => x = zof (cupv D 5) (stv D 8) r w ∧ m = (D, rho n1 W)) (some (some (vi v))) (D, rho n1 W) := fun v hv => Or.inl ⟨v, rfl, by unfold zof; rw [if_pos ⟨hx, hy⟩, hv], rfl⟩
  refine ⟨fun c => ⟨rfl, hr.1, cP (C_greatest (D := D) hr cup5 l0 l1) (yes _ ?_)⟩, fun c => ⟨rfl, hr.1, cP (C_slope (D := D) (c := 5) hr cup5 l0 l1) (yes _ ?_)⟩, fun c => ⟨hr.1, yes _ ?_⟩, fun c => ⟨rfl, hr.1, cP (C_contents (D := D) hr cup5 l0 l1) (yes _ ?_)⟩⟩
  · rw [if_neg (by omega), if_neg (by omega), if_neg (by omega), ← hrv]
    rfl
  · rw [if_pos c, ← hrv]
  · rw [if_neg (by omega), if_pos c, ← hrv]
    rfl
  · rw [if_neg (by omega), if_neg (by omega), if_pos c, ← hrv]
    rfl
theorem C_gives {l push : Int} (hm : MP D W) (ht : 0 ≤ D 8 0) : Cl (d + 7) 1 6 mX9_gives [vr 4, vi l, vi push] (D, rho n1 W) (KX (fun x m => ∃ D', m = (D', rho n1 W) ∧ Fr aF D D' ∧ x = zgives (cupv D 5) (lawsv D W) (stv D 8) l push)) := by
  have hcl : 1 ≤ D 5 0 ∧ D 5 0 ≤ 19 := ⟨hm.1.1, hm.1.2.1⟩
  have hlate : 0 ≤ D 6 5 ∧ D 6 5 ≤ 20 := by
    have s5 := hm.1.late
    have e : cSet (cupv D 5) 5 = D 6 5 := cut_in (n := 7) (f := D 6) (k := 5) (by decide) (by decide)
    rw [e] at s5
    exact s5
  refine Cl_of mb_X9_gives (Nat.le_of_ble_eq_true rfl) (sg_X9_gives_0 ⟨rfl, cR (C_toldLaw hm) ?_⟩)
  rintro b m ⟨hb, rfl⟩
  have no : ¬ ((lawsv D W l).isSome = true ∧ (-500 ≤ push ∧ push ≤ 500)) → KX (fun x m => ∃ D', m = (D', rho n1 W) ∧ Fr aF D D' ∧ x = zgives (cupv D 5) (lawsv D W) (stv D 8) l push) none (D, rho n1 W) := fun h => Or.inr ⟨rfl, D, rfl, Fr.refl, (if_neg h).symm⟩
  refine ⟨fun c => ⟨by decide, by decide, no (fun q => lawsv_some.mp q.1 (hb.symm.trans c))⟩, fun c => cB C_isPush (fun hx => yN ⟨rfl, rfl, cI (C_given (D := D) (o := 8) (c := 5) (l := b) st8 cup5 (by rw [hb]; exact (tlaw_id hm).imp id sLaw_of) hcl.1 hcl.2 ht hlate.1 hlate.2) ?_⟩) (fun hx => nN ⟨by decide, by decide, no (fun q => hx q.2)⟩)⟩
  rintro x m ⟨G, rfl, f1, f2⟩
  refine Or.inl ⟨x, rfl, G, rfl, f1.mono (fun q j h => ?_), ?_⟩
  · rcases tlaw_id hm (l := l) with z | z
    · exact absurd (hb.trans z) h.1
    · rw [← hb] at z
      unfold lawId at z
      unfold aF
      omega
  · unfold zgives
    rw [if_pos ⟨lawsv_some.mpr (fun z => c (hb.trans z)), hx⟩, f2, hb]
    rfl
theorem C_row {i : Int} (h0 : 0 ≤ D 4 16) (h1 : D 4 16 ≤ 4) : Cl (d + 7) 1 6 mX9_row [vr 4, vi i] (D, rho n1 W) (KXL (fun x m => x = (if 0 ≤ i ∧ i ≤ (TV D).2 - 1 then some ((TV D).1.getD i.toNat 0) else none) ∧ m = (D, rho n1 W))) := by
  have w1 : w32 (D 4 16 - 1) = D 4 16 - 1 := w32_id (by omega) (by omega)
  refine Cl_of mb_X9_row (Nat.le_of_ble_eq_true rfl) (sg_X9_row_0 ⟨rfl, cB C_isIn (fun hx => yN ⟨rfl, rfl, bnd (N := 4) rfl hx.1 ?_, ?_⟩) (fun hx => nN ⟨by decide, by decide, Or.inr ⟨rfl, (if_neg ?_).symm, rfl⟩⟩)⟩)
  · have h2 : i ≤ w32 (D 4 16 - 1) := hx.2
    show i < 4
    omega
  · have h2 : i ≤ w32 (D 4 16 - 1) := hx.2
    rw [w1] at h2
    have h3 : 0 ≤ i := hx.1
    refine Or.inl ⟨_, rfl, ?_, rfl⟩
    rw [if_pos (show 0 ≤ i ∧ i ≤ (TV D).2 - 1 from ⟨h3, h2⟩)]
    show some (D 98 i) = some ((lst (D 98) (D 4 16)).getD i.toNat 0)
    unfold lst
    rw [List.getD_eq_getElem?_getD, List.getElem?_map, List.getElem?_range (by omega)]
    show _ = some (D 98 ((i.toNat : Nat) : Int))
    rw [show ((i.toNat : Nat) : Int) = i by omega]
  · intro q
    have q2 : i ≤ D 4 16 - 1 := q.2
    refine hx ⟨q.1, ?_⟩
    show i ≤ w32 (D 4 16 - 1)
    rw [w1]
    exact q2
def S_stir (c : Cv) (s : Sv) (r : Int) : Int := if 0 ≤ r ∧ r ≤ 1 then zstir c (sRow s r) (cLast c + 1).toNat else -1
theorem C_stir {r : Int} (l0 : 1 ≤ D 5 0) (l1 : D 5 0 ≤ 19) : Cl (d + 7) 0 0 mX9_stir [vr 4, vi r] (D, rho n1 W) (KL (fun x m => x = S_stir (cupv D 5) (stv D 8) r ∧ m = (D, rho n1 W))) := by
  refine Cl_of mb_X9_stir (Nat.le_of_ble_eq_true rfl) (sg_X9_stir_0 (cB C_isRow (fun hx => yE ⟨rfl, rfl, cR (C_rowOf (D := D) (o := 8) st8) ?_⟩) (fun hx => nE ⟨_, rfl, (if_neg hx).symm, rfl⟩)))
  rintro x m ⟨hxx, rfl⟩
  obtain ⟨hr, hx9⟩ := row_of (n1 := n1) (W := W) hxx
  have hrv := stv_row (D := D) hxx
  refine ⟨rfl, hr.1, cL (C_restlessness (D := D) hr cup5 l0 l1) ?_⟩
  rintro y m ⟨rfl, rfl⟩
  refine ⟨_, rfl, ?_, rfl⟩
  unfold S_stir
  rw [if_pos hx, ← hrv]
  rfl
end ANS
