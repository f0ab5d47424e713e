/-! ===== the class's fits, reads, count, sign, end ===== -/
def txtv (D : DD) : List Int := lst (D 18) (D 17 1)
def zbyte (v s : Int) : Int := bAnd (bUshr v s) 255
def zlawbits (lw : Int → Option (List Int)) : Nat → Int
  | 0 => 0
  | n + 1 => bOr (zlawbits lw n) (if (lw n).isSome = true then bShl 1 n else 0)
def S_count (c : Cv) (s : Sv) (lw : Int → Option (List Int)) (spots films told typed : Int) (what : Int) : Int :=
  if what = 0 then cLast c + 1 else if what = 1 then cRim c else if what = 2 then cFill c else if what = 3 then sTick s else if what = 4 then zlawbits lw 3 else if what = 5 then spots else if what = 6 then films else if what = 7 then told else if what = 8 then typed else if what = 9 then zwc c (cLast c).toNat else -1
section ANS2
variable {d n1 : Nat} {W : Nat → Nat} {D : DD}
theorem C_toldLawBits (hm : MP D W) : Cl d 0 0 mX9_toldLawBits [vr 4] (D, rho n1 W) (KI (fun x m => x = zlawbits (lawsv D W) 3 ∧ m = (D, rho n1 W))) := by
  refine Cl_of mb_X9_toldLawBits (Nat.le_of_ble_eq_true rfl) (sg_X9_toldLawBits_0 ?_)
  refine Wp.loop (σ := Int × Int) (fun z => [some (vr 4), some (vi z.1), some (vi z.2)])
    (fun z μ => μ = (D, rho n1 W) ∧ 0 ≤ z.2 ∧ z.2 ≤ 3 ∧ z.1 = zlawbits (lawsv D W) z.2.toNat)
    (fun z => (3 - z.2).toNat) ?_ (0, 0) _ ⟨rfl, by decide, by decide, rfl⟩
  rintro ⟨s, i⟩ μ ⟨rfl, i0, i1, hs⟩ ih
  dsimp only at i0 i1 hs ih ⊢
  refine sg_X9_toldLawBits_4 ⟨fun c => ⟨_, rfl, ?_, rfl⟩, fun c => ⟨rfl, rfl, bnd (N := 3) rfl i0 (by omega), ?_⟩⟩
  · rw [hs, show i = 3 by omega]
    rfl
  have el : mR (D, rho n1 W) (mR (D, rho n1 W) 4 8) i = W (5 + i.toNat) := RF_26 i0 (by omega)
  rw [el]
  have hl := hm.2.2.1 (5 + i.toNat) (by omega) (by omega)
  have hid : W (5 + i.toNat) ≠ 0 := by unfold lawId at hl; omega
  have step : zlawbits (lawsv D W) (i + 1).toNat = bOr s (if (lawsv D W i).isSome = true then bShl 1 i else 0) := by
    rw [show (i + 1).toNat = i.toNat + 1 by omega, hs]
    show bOr _ (if (lawsv D W ((i.toNat : Nat) : Int)).isSome = true then bShl 1 ((i.toNat : Nat) : Int) else 0) = _
    rw [show ((i.toNat : Nat) : Int) = i by omega]
  have ht : tlaw D W i = if 0 < D (W (5 + i.toNat)) 2 then W (5 + i.toNat) else 0 := by
    unfold tlaw
    by_cases q : 0 < D (W (5 + i.toNat)) 2
    · rw [if_pos ⟨⟨i0, by omega⟩, q⟩, if_pos q]
    · rw [if_neg (fun z => q z.2), if_neg q]
  refine ⟨(sLaw_of (n1 := n1) (W := W) hl).1, fun c2 v1 e1 v2 e2 => ?_, fun c2 v1 e1 v2 e2 => ?_⟩
  · change D (W (5 + i.toNat)) 2 ≤ 0 at c2
    rw [w32_id (by omega) (by omega)] at e2
    subst e1 e2
    refine ih (_, i + 1) _ ⟨rfl, by dsimp only; omega, by dsimp only; omega, ?_⟩ (by dsimp only; omega)
    dsimp only
    rw [step, if_neg (fun z => lawsv_some.mp z (by rw [ht, if_neg (by omega)]))]
    rfl
  · change ¬ D (W (5 + i.toNat)) 2 ≤ 0 at c2
    rw [w32_id (by omega) (by omega)] at e2
    subst e1 e2
    refine ih (_, i + 1) _ ⟨rfl, by dsimp only; omega, by dsimp only; omega, ?_⟩ (by dsimp only; omega)
    dsimp only
    rw [step, if_pos (lawsv_some.mpr (by rw [ht, if_pos (by omega)]; exact hid))]
    rfl
theorem C_count {w : Int} (hm : MP D W) : Cl (d + 7) 0 0 mX9_count [vr 4, vi w] (D, rho n1 W) (KI (fun x m => x = S_count (cupv D 5) (stv D 8) (lawsv D W) (D 4 13) (D 93 4) (D 4 16) (D 17 1) w ∧ m = (D, rho n1 W))) := by
  have hcl : 1 ≤ D 5 0 ∧ D 5 0 ≤ 19 := ⟨hm.1.1, hm.1.2.1⟩
  refine Cl_of mb_X9_count (Nat.le_of_ble_eq_true rfl) (sg_X9_count_0 ⟨fun c => ⟨_, rfl, ?_, rfl⟩, fun c => ⟨rfl, rfl, _, rfl, ?_, rfl⟩, fun c => ⟨rfl, rfl, _, rfl, ?_, rfl⟩, fun c => ⟨rfl, rfl, _, rfl, ?_, rfl⟩, fun c => ⟨rfl, rfl, _, rfl, ?_, rfl⟩, fun c => ⟨rfl, cP (C_toldLawBits hm) ⟨_, rfl, ?_, rfl⟩⟩, fun c => ⟨rfl, _, rfl, ?_, rfl⟩, fun c => ⟨rfl, rfl, _, rfl, ?_, rfl⟩, fun c => ⟨rfl, _, rfl, ?_, rfl⟩, fun c => ⟨rfl, rfl, _, rfl, ?_, rfl⟩, fun c => ⟨rfl, rfl, cP (C_wallCount (D := D) (c := 5) cup5 hcl.2 (by omega)) ⟨_, rfl, ?_, rfl⟩⟩⟩) <;> unfold S_count
  · rw [if_neg (by omega), if_neg (by omega), if_neg (by omega), if_neg (by omega), if_neg (by omega), if_neg (by omega), if_neg (by omega), if_neg (by omega), if_neg (by omega), if_neg (by omega)]
  · rw [if_pos c]
    show w32 (D 5 0 + 1) = D 5 0 + 1
    rw [w32_id (by omega) (by omega)]
  · rw [if_neg (by omega), if_pos c]
    rfl
  · rw [if_neg (by omega), if_neg (by omega), if_pos c]
    rfl
  · rw [if_neg (by omega), if_neg (by omega), if_neg (by omega), if_pos c]
    rfl
  · rw [if_neg (by omega), if_neg (by omega), if_neg (by omega), if_neg (by omega), if_pos c]
  · rw [if_neg (by omega), if_neg (by omega), if_neg (by omega), if_neg (by omega), if_neg (by omega), if_pos c]
    rfl
  · rw [if_neg (by omega), if_neg (by omega), if_neg (by omega), if_neg (by omega), if_neg (by omega), if_neg (by omega), if_pos c]
    rfl
  · rw [if_neg (by omega), if_neg (by omega), if_neg (by omega), if_neg (by omega), if_neg (by omega), if_neg (by omega), if_neg (by omega), if_pos c]
    rfl
  · rw [if_neg (by omega), if_neg (by omega), if_neg (by omega), if_neg (by omega), if_neg (by omega), if_neg (by omega), if_neg (by omega), if_neg (by omega), if_pos c]
    rfl
  · rw [if_neg (by omega), if_neg (by omega), if_neg (by omega), if_neg (by omega), if_neg (by omega), if_neg (by omega), if_neg (by omega), if_neg (by omega), if_neg (by omega), if_pos c]
    rfl
theorem C_offByLaw {i : Int} {l : Nat} (hm : MP D W) (hl : lawId l) (i0 : 0 ≤ i) (i1 : i < D 93 4) (n20 : D 93 4 ≤ 20) : Cl (d + 2) 0 0 mX1_offByLaw [vr 93, vi i, vr l, vr 5] (D, rho n1 W) (KI (fun x m => ∃ D', m = (D', rho n1 W) ∧ Fr aF D D' ∧ x = zoff (cupv D 5) (lawv D l) (fmAt (filmsv D) i.toNat))) := by
  refine Cl_of mb_X1_offByLaw (Nat.le_of_ble_eq_true rfl) (sg_X1_offByLaw_0 ⟨rfl, Or.inl rfl, bnd (N := 20) rfl i0 (by omega), Or.inl rfl, bnd (N := 20) rfl i0 (by omega), Or.inl rfl, bnd (N := 20) rfl i0 (by omega), rfl, Or.inl rfl, bnd (N := 7) rfl (by decide) (by decide), (sLaw_of (n1 := n1) (W := W) hl).1, cI (C_bounded (D := D) (sLaw_of hl)) ?_⟩)
  rintro x m ⟨G, rfl, f1, f2⟩
  refine ⟨rfl, Or.inl rfl, bnd (N := 20) rfl i0 (by omega), cP C_absz ⟨_, rfl, G, rfl, f1.mono (fun q j h => by unfold lawId at hl; unfold aF; omega), ?_⟩⟩
  have e94 : mD (G, rho n1 W) (mR (G, rho n1 W) 93 3) i = D 97 i := f1 97 i (by unfold lawId at hl; omega)
  unfold zoff
  rw [e94, f2, filmsv_at (by omega), show ((i.toNat : Nat) : Int) = i by omega]
  show zabs (w32 (zlaw (lawv D l) (D 94 i) (D 95 i) (D 96 i) (D 6 2) (D 5 2) - D 97 i)) = zabs (w32 (zlaw (lawv D l) (D 94 i) (D 95 i) (D 96 i) (cut 7 (D (5 + 1)) 2) (D 5 2) - D 97 i))
  rw [cut_in (by decide) (by decide)]
theorem C_fits {l within : Int} (hm : MP D W) (n0 : 0 ≤ D 93 4) (n20 : D 93 4 ≤ 20) : Cl (d + 7) 0 0 mX9_fits [vr 4, vi l, vi within] (D, rho n1 W) (KI (Wh n1 D W (S_fits (cupv D 5) (lawsv D W) (filmsv D) l within))) := by
  refine Cl_of mb_X9_fits (Nat.le_of_ble_eq_true rfl) (sg_X9_fits_0 ⟨rfl, cR (C_toldLaw hm) ?_⟩)
  rintro b m ⟨hb, rfl⟩
  refine ⟨fun c => ⟨_, rfl, Wh_no AF.refl ?_ ?_⟩, fun c => cB C_isIn (fun hx => yN ?_) (fun hx => nN ⟨_, rfl, Wh_no AF.refl ?_ ?_⟩)⟩
  · unfold S_fits lawsv lawO
    rw [if_pos (hb.symm.trans c)]
  · unfold S_fits lawsv lawO
    rw [if_pos (hb.symm.trans c)]
  rotate_left
  · unfold S_fits lawsv lawO
    rw [if_neg (fun z => c (hb.trans z))]
    dsimp only
    rw [if_neg hx]
  · unfold S_fits lawsv lawO
    rw [if_neg (fun z => c (hb.trans z))]
    dsimp only
    rw [if_neg hx]
  have hl : lawId b := (tlaw_id hm (l := l)).elim (fun z => absurd (hb.trans z) c) (fun z => by rw [hb]; exact z)
  have hS : S_fits (cupv D 5) (lawsv D W) (filmsv D) l within = ((zfits (cupv D 5) (lawv D b) within (fmAt (filmsv D)) (D 93 4).toNat).1, some [(zfits (cupv D 5) (lawv D b) within (fmAt (filmsv D)) (D 93 4).toNat).2.1, (zfits (cupv D 5) (lawv D b) within (fmAt (filmsv D)) (D 93 4).toNat).2.2.1]) := by
    unfold S_fits lawsv lawO
    rw [if_neg (fun z => c (hb.trans z))]
    dsimp only
    rw [if_pos hx, filmsv_len, hb]
  generalize S_fits (cupv D 5) (lawsv D W) (filmsv D) l within = S at hS ⊢
  refine Wp.loop (σ := (Int × Int × Int × Int) × Int) (fun z => [some (vr 4), some (vi l), some (vi within), some (vr b), some (vi z.1.1), some (vi z.1.2.1), some (vi z.1.2.2.1), some (vi z.1.2.2.2), some (vi z.2), none])
    (fun z μ => ∃ E : DD, μ = (E, rho n1 W) ∧ AF D W E W ∧ 0 ≤ z.2 ∧ z.2 ≤ D 93 4 ∧ z.1 = zfits (cupv D 5) (lawv D b) within (fmAt (filmsv D)) z.2.toNat)
    (fun z => (D 93 4 - z.2).toNat) ?_ ((0, 0, -1, -1), 0) _ ⟨D, rfl, AF.refl, Int.le_refl _, n0, rfl⟩
  rintro ⟨s, i⟩ μ ⟨E, rfl, hA, i0, i1, hs⟩ ih
  dsimp only at i0 i1 hs ih ⊢
  have e90 : E 93 4 = D 93 4 := hA.1 93 4 (by unfold aF; omega)
  have eF : filmsv E = filmsv D := by
    unfold filmsv
    rw [e90, hA.1.obj (o := 94) (fun j => by unfold aF; omega), hA.1.obj (o := 95) (fun j => by unfold aF; omega), hA.1.obj (o := 96) (fun j => by unfold aF; omega), hA.1.obj (o := 97) (fun j => by unfold aF; omega)]
  have eL : lawv E b = lawv D b := by
    unfold lawv
    rw [hA.1.obj (o := b + 1) (fun j => by unfold lawId at hl; unfold aF; omega), hA.1.obj (o := b) (fun j => by unfold lawId at hl; unfold aF; omega)]
  refine sg_X9_fits_37 ⟨rfl, rfl, fun c2 => cV C_tell2 ?_, fun c2 => cI (C_offByLaw (D := E) (hA.mp hm) hl i0 ?_ (by omega)) ?_⟩
  · change E 93 4 ≤ i at c2
    rintro m ⟨E4, rfl, g1, g2, g3⟩
    refine ⟨_, rfl, Wh_tell hA g1 g2 g3 ?_ ?_ rfl⟩ <;> rw [hS] <;> rw [hs, show i = D 93 4 by omega]
  · change ¬ E 93 4 ≤ i at c2
    omega
  change ¬ E 93 4 ≤ i at c2
  rintro x m ⟨G, rfl, f1, hx2⟩ v1 e1
  rw [hA.cup, eL, eF] at hx2
  have hAG : AF D W G W := hA.trans ⟨f1, fun _ _ => rfl⟩
  have hst : zfits (cupv D 5) (lawv D b) within (fmAt (filmsv D)) (i + 1).toNat = (w32 (s.1 + (if x ≤ within then 1 else 0)), w32 (s.2.1 + x), if s.2.2.2 < x then (i, x) else s.2.2) := by
    rw [show (i + 1).toNat = i.toNat + 1 by omega, hs]
    show zfit1 _ _ _ ((i.toNat : Nat) : Int) (fmAt (filmsv D) i.toNat) _ = _
    unfold zfit1
    rw [← hx2, show ((i.toNat : Nat) : Int) = i by omega]
  have next : ∀ t : Int × Int × Int × Int, t = zfits (cupv D 5) (lawv D b) within (fmAt (filmsv D)) (i + 1).toNat → ∀ v, v = w32 (i + 1) → Wp (d + 7) 0 0 mX9_fits 37 [some (vr 4), some (vi l), some (vi within), some (vr b), some (vi t.1), some (vi t.2.1), some (vi t.2.2.1), some (vi t.2.2.2), some (vi v), none] [] (G, rho n1 W) (KI (Wh n1 D W S)) := by
    rintro t ht v rfl
    rw [w32_id (by omega) (by omega)]
    exact ih (t, i + 1) _ ⟨G, rfl, hAG, by dsimp only; omega, by dsimp only; omega, ht⟩ (by dsimp only; omega)
  refine ⟨fun c3 v2 e2 => ⟨fun c4 v e => next (v2, v1, s.2.2.1, s.2.2.2) ?_ v e, fun c4 v e => next (v2, v1, i, x) ?_ v e⟩, fun c3 v2 e2 => ⟨fun c4 v e => next (v2, v1, s.2.2.1, s.2.2.2) ?_ v e, fun c4 v e => next (v2, v1, i, x) ?_ v e⟩⟩
  · rw [hst, if_neg (by omega), if_neg (by omega), e1, e2]
  · rw [hst, if_neg (by omega), if_pos (by omega), e1, e2]
  · rw [hst, if_pos (by omega), if_neg (by omega), e1, e2]
  · rw [hst, if_pos (by omega), if_pos (by omega), e1, e2]
theorem C_offByTenths {a b : Int} (n0 : 0 ≤ D 93 4) (n20 : D 93 4 ≤ 20) : Cl (d + 1) 0 0 mX1_offByTenths [vr 93, vi a, vi b] (D, rho n1 W) (KI (fun x m => x = ztens a b (fmAt (filmsv D)) (D 93 4).toNat ∧ m = (D, rho n1 W))) := by
  refine Cl_of mb_X1_offByTenths (Nat.le_of_ble_eq_true rfl) (sg_X1_offByTenths_0 ?_)
  refine Wp.loop (σ := Int × Int) (fun z => [some (vr 93), some (vi a), some (vi b), some (vi z.1), some (vi z.2), none])
    (fun z μ => μ = (D, rho n1 W) ∧ 0 ≤ z.2 ∧ z.2 ≤ D 93 4 ∧ z.1 = ztens a b (fmAt (filmsv D)) z.2.toNat)
    (fun z => (D 93 4 - z.2).toNat) ?_ (0, 0) _ ⟨rfl, by decide, n0, rfl⟩
  rintro ⟨s, i⟩ μ ⟨rfl, i0, i1, hs⟩ ih
  dsimp only at i0 i1 hs ih ⊢
  refine sg_X1_offByTenths_5 ⟨rfl, fun c => ⟨_, rfl, ?_, rfl⟩, fun c => ⟨Or.inl rfl, bnd (N := 20) rfl i0 ?_, Or.inl rfl, bnd (N := 20) rfl i0 ?_, cP C_between ⟨rfl, Or.inl rfl, bnd (N := 20) rfl i0 ?_, cP C_absz fun v1 e1 v2 e2 => ?_⟩⟩⟩
  · change D 93 4 ≤ i at c
    rw [hs, show i = D 93 4 by omega]
  · change ¬ D 93 4 ≤ i at c
    show i < 20
    omega
  · change ¬ D 93 4 ≤ i at c
    show i < 20
    omega
  · change ¬ D 93 4 ≤ i at c
    show i < 20
    omega
  · change ¬ D 93 4 ≤ i at c
    rw [w32_id (x := i + 1) (by omega) (by omega)] at e2
    subst e1 e2
    refine ih (_, i + 1) _ ⟨rfl, by dsimp only; omega, by dsimp only; omega, ?_⟩ (by dsimp only; omega)
    dsimp only
    rw [show (i + 1).toNat = i.toNat + 1 by omega, hs]
    show w32 (_ + _) = w32 (_ + ztenth a b (fmAt (filmsv D) i.toNat))
    rw [filmsv_at (by omega), show ((i.toNat : Nat) : Int) = i by omega]
    rfl
theorem C_reads (hm : MP D W) (n0 : 0 ≤ D 93 4) (n20 : D 93 4 ≤ 20) : Cl (d + 7) 0 0 mX9_reads [vr 4] (D, rho n1 W) (KI (Wh n1 D W (S_reads (filmsv D)))) := by
  refine Cl_of mb_X9_reads (Nat.le_of_ble_eq_true rfl) (sg_X9_reads_0 ⟨rfl, rfl, fun c => ?_, fun c => ⟨_, rfl, Wh_no AF.refl ?_ ?_⟩⟩)
  rotate_left
  · change D 93 4 = 0 at c
    unfold S_reads
    rw [if_pos (by rw [filmsv_len]; omega)]
  · change D 93 4 = 0 at c
    unfold S_reads
    rw [if_pos (by rw [filmsv_len]; omega)]
  change ¬ D 93 4 = 0 at c
  have hS : S_reads (filmsv D) = (0, some [(zread (fun a b => ztens a b (fmAt (filmsv D)) (D 93 4).toNat) 441).2.1, (zread (fun a b => ztens a b (fmAt (filmsv D)) (D 93 4).toNat) 441).2.2, (zread (fun a b => ztens a b (fmAt (filmsv D)) (D 93 4).toNat) 441).1]) := by
    unfold S_reads
    rw [if_neg (by rw [filmsv_len]; omega), filmsv_len]
  generalize S_reads (filmsv D) = S at hS ⊢
  refine Wp.loop (σ := (Int × Int × Int) × Int) (fun z => [some (vr 4), some (vi z.1.1), some (vi z.1.2.1), some (vi z.1.2.2), some (vi z.2), none, none])
    (fun z μ => μ = (D, rho n1 W) ∧ 0 ≤ z.2 ∧ z.2 ≤ 21 ∧ z.1 = zread (fun a b => ztens a b (fmAt (filmsv D)) (D 93 4).toNat) (21 * z.2).toNat)
    (fun z => (21 - z.2).toNat) ?_ ((2147483647, -1, -1), 0) _ ⟨rfl, by decide, by decide, rfl⟩
  rintro ⟨s, i⟩ μ ⟨rfl, i0, i1, hs⟩ ih
  dsimp only at i0 i1 hs ih ⊢
  refine sg_X9_reads_23 ⟨fun c2 => ⟨rfl, cV C_tell3 ?_⟩, fun c2 => ?_⟩
  · rintro m ⟨E4, rfl, g1, g2, g3⟩
    have e : (21 * i).toNat = 441 := by omega
    rw [e] at hs
    refine ⟨_, rfl, Wh_tell AF.refl g1 g2 g3 ?_ ?_ rfl⟩ <;> rw [hS]
    rw [hs]
  refine Wp.loop (σ := (Int × Int × Int) × Int) (fun z => [some (vr 4), some (vi z.1.1), some (vi z.1.2.1), some (vi z.1.2.2), some (vi i), some (vi z.2), none])
    (fun z μ => μ = (D, rho n1 W) ∧ 0 ≤ z.2 ∧ z.2 ≤ 21 ∧ z.1 = zread (fun a b => ztens a b (fmAt (filmsv D)) (D 93 4).toNat) (21 * i + z.2).toNat)
    (fun z => (21 - z.2).toNat) ?_ (s, 0) _ ⟨rfl, by dsimp only; decide, by dsimp only; decide, by rw [hs, Int.add_zero]⟩
  rintro ⟨t, j⟩ μ ⟨rfl, j0, j1, ht⟩ ih2
  dsimp only at j0 j1 ht ih2 ⊢
  refine sg_X9_reads_33 ⟨fun c3 v e => ?_, fun c3 => ⟨rfl, rfl, cP (C_offByTenths (D := D) n0 n20) ⟨fun c4 v e => ?_, fun c4 v e => ?_⟩⟩⟩
  · rw [w32_id (by omega) (by omega)] at e
    subst e
    refine ih (t, i + 1) _ ⟨rfl, by dsimp only; omega, by dsimp only; omega, ?_⟩ (by dsimp only; omega)
    dsimp only
    rw [ht, show 21 * i + j = 21 * (i + 1) by omega]
  all_goals
    rw [w32_id (by omega) (by omega)] at e
    subst e
    have hst : zread (fun a b => ztens a b (fmAt (filmsv D)) (D 93 4).toNat) (21 * i + (j + 1)).toNat = zread1 (fun a b => ztens a b (fmAt (filmsv D)) (D 93 4).toNat) i j t := by
      rw [ht, show (21 * i + (j + 1)).toNat = (21 * i + j).toNat + 1 by omega]
      show zread1 _ (((21 * i + j).toNat / 21 : Nat) : Int) (((21 * i + j).toNat % 21 : Nat) : Int) _ = _
      rw [show (((21 * i + j).toNat / 21 : Nat) : Int) = i by omega, show (((21 * i + j).toNat % 21 : Nat) : Int) = j by omega]
    unfold zread1 at hst
    dsimp only at hst
  · refine ih2 (t, j + 1) _ ⟨rfl, by dsimp only; omega, by dsimp only; omega, ?_⟩ (by dsimp only; omega)
    dsimp only
    rw [hst, if_neg (by omega)]
  · refine ih2 ((_, i, j), j + 1) _ ⟨rfl, by dsimp only; omega, by dsimp only; omega, ?_⟩ (by dsimp only; omega)
    dsimp only
    rw [hst, if_pos (by omega)]
def txF (q : Nat) (j : Int) : Prop := q = 18 ∨ (q = 17 ∧ j = 1)
theorem C_tadd {v : Int} (h0 : 0 ≤ D 17 1) (h1 : D 17 1 ≤ 80) : Cl d 0 0 mX6_add [vr 17, vi v] (D, rho n1 W) (KI (fun x m => ∃ D', m = (D', rho n1 W) ∧ Fr txF D D' ∧ (D 17 1 + 4 ≤ 80 ∧ x = 1 ∧ txtv D' = txtv D ++ [zbyte v 24, zbyte v 16, zbyte v 8, zbyte v 0] ∧ D' 17 1 = D 17 1 + 4 ∨ ¬ D 17 1 + 4 ≤ 80 ∧ x = 0 ∧ D' = D))) := by
  have w4 : w32 (D 17 1 + 4) = D 17 1 + 4 := w32_id (by omega) (by omega)
  refine Cl_of mb_X6_add (Nat.le_of_ble_eq_true rfl) (sg_X6_add_0 ⟨rfl, kb (Nat.le_of_ble_eq_true rfl) (Nat.le_of_ble_eq_true rfl), fun c => ?_, fun c => ⟨_, rfl, D, rfl, Fr.refl, Or.inr ⟨?_, rfl, rfl⟩⟩⟩)
  rotate_left
  · change ¬ w32 (D 17 1 + 4) ≤ ((80 : Nat) : Int) at c
    rw [w4] at c
    exact c
  change w32 (D 17 1 + 4) ≤ ((80 : Nat) : Int) at c
  rw [w4] at c
  have c : D 17 1 + 4 ≤ 80 := c
  have br : ∀ s : Int, 0 ≤ zbyte v s ∧ zbyte v s < 256 := fun s => by
    unfold zbyte bAnd
    have e : (Int32.ofInt (bUshr v s) &&& Int32.ofInt 255).toBitVec.toNat < 256 := by
      rw [Int32.toBitVec_and, BitVec.toNat_and]
      exact Nat.and_lt_two_pow (n := 8) _ (by decide)
    have e2 : (Int32.ofInt (bUshr v s) &&& Int32.ofInt 255).toInt = ((Int32.ofInt (bUshr v s) &&& Int32.ofInt 255).toBitVec.toNat : Int) := by
      show (Int32.ofInt (bUshr v s) &&& Int32.ofInt 255).toBitVec.toInt = _
      rw [BitVec.toInt_eq_toNat_of_lt (by omega)]
    rw [e2]
    omega
  have main : ∀ (k : Nat) (E : DD), k ≤ 4 → Fr txF D E → E 17 1 = D 17 1 + (4 - (k : Int)) → txtv E = txtv D ++ ([zbyte v 24, zbyte v 16, zbyte v 8, zbyte v 0].take (4 - k)) →
      Wp d 0 0 mX6_add 19 [some (vr 17), some (vi v), some (vi (8 * (k : Int) - 8))] [] (E, rho n1 W) (KI (fun x m => ∃ D', m = (D', rho n1 W) ∧ Fr txF D D' ∧ (D 17 1 + 4 ≤ 80 ∧ x = 1 ∧ txtv D' = txtv D ++ [zbyte v 24, zbyte v 16, zbyte v 8, zbyte v 0] ∧ D' 17 1 = D 17 1 + 4 ∨ ¬ D 17 1 + 4 ≤ 80 ∧ x = 0 ∧ D' = D))) := by
    intro k
    induction k with
    | zero =>
      intro E _ hE hn ht
      refine sg_X6_add_19 ⟨fun _ => ⟨_, rfl, E, rfl, hE, Or.inl ⟨c, rfl, ?_, by omega⟩⟩, fun c2 => absurd (by omega) c2⟩
      rw [ht]
      rfl
    | succ k ih =>
      intro E hk hE hn ht
      refine sg_X6_add_19 ⟨fun c2 => absurd c2 (by omega), fun _ => ⟨rfl, rfl, bnd (N := 80) rfl (by show 0 ≤ E 17 1; omega) (by show E 17 1 < 80; omega), fun m1 e1 m2 e2 v1 ev => ?_⟩⟩
      rw [w32_id (by omega) (by omega)] at ev
      have hb : (bAnd (bUshr v (8 * ((k + 1 : Nat) : Int) - 8)) 255 % 65536) % 65536 = zbyte v (8 * ((k + 1 : Nat) : Int) - 8) := by
        have := br (8 * ((k + 1 : Nat) : Int) - 8)
        unfold zbyte at this ⊢
        omega
      have em : m2 = (wr (wr E 18 (E 17 1) (zbyte v (8 * ((k + 1 : Nat) : Int) - 8))) 17 1 (E 17 1 + 1), rho n1 W) := by
        have w1 : w32 (E 17 1 + 1) = E 17 1 + 1 := w32_id (by omega) (by omega)
        rw [e2, e1, hb, ← w1]
        rfl
      subst em
      have ev : v1 = 8 * (k : Int) - 8 := by omega
      rw [ev]
      refine ih _ (by omega) ((hE.wr (Or.inl rfl)).wr (Or.inr ⟨rfl, rfl⟩)) (by rw [wr_at]; omega) ?_
      have et : txtv (wr (wr E 18 (E 17 1) (zbyte v (8 * ((k + 1 : Nat) : Int) - 8))) 17 1 (E 17 1 + 1)) = txtv E ++ [zbyte v (8 * ((k + 1 : Nat) : Int) - 8)] := by
        unfold txtv
        rw [wr_at, wr_o (by decide), wr_A, lst_push (by omega)]
      rw [et, ht, List.append_assoc]
      congr 1
      have hk4 : k = 0 ∨ k = 1 ∨ k = 2 ∨ k = 3 := by omega
      rcases hk4 with h | h | h | h <;> subst h <;> rfl
  exact main 4 D (by decide) Fr.refl (by omega) (by rw [show (4 - 4 : Nat) = 0 from rfl]; exact (List.append_nil _).symm)
theorem C_sign {v : Int} (h0 : 0 ≤ D 17 1) (h1 : D 17 1 ≤ 80) : Cl (d + 7) 0 0 mX9_sign [vr 4, vi v] (D, rho n1 W) (KI (fun x m => ∃ D', m = (D', rho n1 W) ∧ Fr txF D D' ∧ (D 17 1 + 4 ≤ 80 ∧ x = D 17 1 + 4 ∧ txtv D' = txtv D ++ [zbyte v 24, zbyte v 16, zbyte v 8, zbyte v 0] ∧ D' 17 1 = D 17 1 + 4 ∨ ¬ D 17 1 + 4 ≤ 80 ∧ x = -1 ∧ D' = D))) := by
  refine Cl_of mb_X9_sign (Nat.le_of_ble_eq_true rfl) (sg_X9_sign_0 ⟨rfl, rfl, cI (C_tadd h0 h1) ?_⟩)
  rintro x m ⟨G, rfl, f1, ⟨f2, rfl, f3, f4⟩ | ⟨f2, rfl, rfl⟩⟩
  · exact yE ⟨rfl, rfl, _, rfl, G, rfl, f1, Or.inl ⟨f2, f4, f3, f4⟩⟩
  · exact nE ⟨_, rfl, G, rfl, f1, Or.inr ⟨f2, rfl, rfl⟩⟩
theorem C_end {n : Int} : Cl (d + 7) 0 0 mX9_end [vr 4, vi n] (D, rho n1 W) (KI (fun x m => ∃ D', m = (D', rho n1 W) ∧ Fr (fun q j => q = 17 ∧ j = 1) D D' ∧ ((0 ≤ n ∧ n ≤ D 17 1) ∧ x = 1 ∧ D' 17 1 = n ∨ ¬ (0 ≤ n ∧ n ≤ D 17 1) ∧ x = 0 ∧ D' = D))) :=
  Cl_of mb_X9_end (Nat.le_of_ble_eq_true rfl) (sg_X9_end_0 ⟨rfl, rfl, cB C_isIn (fun hx => yN ⟨rfl, rfl, fun m2 e2 => ⟨_, rfl, wr D 17 1 n, e2, Fr.refl.wr ⟨rfl, rfl⟩, Or.inl ⟨hx, rfl, wr_at⟩⟩⟩) (fun hx => nN ⟨_, rfl, D, rfl, Fr.refl, Or.inr ⟨hx, rfl, rfl⟩⟩)⟩)
end ANS2
