/-! ===== what the class's calls answer, 5: odds, few, form ===== -/
theorem zways_rng {c : Cv} {L : Option (List Int)} {w : Wv} : ∀ n : Nat, 0 ≤ zways c L w n ∧ zways c L w n ≤ n
  | 0 => ⟨Int.le_refl _, Int.le_refl _⟩
  | n + 1 => by
    obtain ⟨a, b⟩ := zways_rng (c := c) (L := L) (w := w) n
    have e : zways c L w (n + 1) = if 0 < oSum (zOn c L w (n + 1)) then zways c L w n + 1 else zways c L w n := rfl
    rw [e]
    split
    · exact ⟨by omega, by omega⟩
    · exact ⟨by omega, by omega⟩
theorem zoft_rng {c : Cv} {L : Option (List Int)} {w : Wv} {s : Int} : ∀ n : Nat, 0 ≤ zoft c L w s n ∧ zoft c L w s n ≤ n
  | 0 => ⟨Int.le_refl _, Int.le_refl _⟩
  | n + 1 => by
    obtain ⟨a, b⟩ := zoft_rng (c := c) (L := L) (w := w) (s := s) n
    have e : zoft c L w s (n + 1) = if 0 < oSum (zOn c L w (n + 1)) ∧ zstepAt w (oFirst (zOn c L w (n + 1))) = s then zoft c L w s n + 1 else zoft c L w s n := rfl
    rw [e]
    split
    · exact ⟨by omega, by omega⟩
    · exact ⟨by omega, by omega⟩
section PUB5
variable {d n1 : Nat} {W : Nat → Nat} {D : DD}
theorem C_odds {a n : Int} (hm : MP D W) : Cl (d + 7) 0 0 mX9_odds [vr 4, vi a, vi n] (D, rho n1 W) (KI (Wh n1 D W (S_odds (cupv D 5) (hcode D W) (wsv D W) a n))) := by
  have no : ¬ ((0 ≤ a ∧ a ≤ 3) ∧ (1 ≤ n ∧ n ≤ 20)) → Wh n1 D W (S_odds (cupv D 5) (hcode D W) (wsv D W) a n) (-1) (D, rho n1 W) := fun h => Wh_no AF.refl (by unfold S_odds; rw [if_neg h]) (by unfold S_odds; rw [if_neg h])
  refine Cl_of mb_X9_odds (Nat.le_of_ble_eq_true rfl) (sg_X9_odds_0 (cB C_isWalk (fun hy => yE (cB C_isIn (fun hz => yN ⟨rfl, cR (C_asItIs hm) ?_⟩) (fun hz => nN ⟨_, rfl, no (fun q => hz q.2)⟩))) (fun hy => nE ⟨_, rfl, no (fun q => hy q.1)⟩)))
  rintro b m1 ⟨rfl, G, U, rfl, hT⟩
  have hT := hT.c
  refine ⟨rfl, cV (C_clearFirsts (D := G)) ?_⟩
  rintro m2 ⟨G2, rfl, f1, f2⟩
  have hT2 : TRc D W G2 U (cupv D 5) := ⟨⟨hT.1.1.trans (f1.mono (fun q j h => by unfold aF; omega)), hT.1.2⟩, by rw [cupv_fr f1 (fun q j a b => by omega)]; exact hT.2.1, hT.2.2⟩
  refine Wp.loop (σ := Int × Int) (fun z => [some (vr 4), some (vi a), some (vi n), some (vr 30), some (vi z.1), some (vi z.2)])
    (fun z μ => ∃ E : DD, μ = (E, rho n1 U) ∧ TRc D W E U (cupv D 5) ∧ 1 ≤ z.2 ∧ z.2 ≤ n + 1 ∧ z.1 = zways (cupv D 5) (hcode D W) (wsv D W a) (z.2 - 1).toNat ∧ ∀ k, 0 ≤ k → k < 1000 → E 43 k = zoft (cupv D 5) (hcode D W) (wsv D W a) k (z.2 - 1).toNat)
    (fun z => (n + 1 - z.2).toNat) ?_ (0, 1) _ ⟨G2, rfl, hT2, by dsimp only; omega, by dsimp only; omega, rfl, f2⟩
  rintro ⟨ways, s⟩ μ ⟨E, rfl, hE, s0, s1, hw, hf⟩ ih
  dsimp only at s0 s1 hw hf ih ⊢
  have wr1 := zways_rng (c := cupv D 5) (L := hcode D W) (w := wsv D W a) (s - 1).toNat
  rw [← hw] at wr1
  refine sg_X9_odds_34 ⟨fun c => ⟨rfl, fun m3 e3 => ?_⟩, fun c => ⟨rfl, rfl, bnd (N := 4) rfl hy.1 (by omega), rfl, ?_⟩⟩
  · obtain ⟨E3, q0, g1, g2, g3⟩ : ∃ E3 : DD, m3 = (E3, rho n1 U) ∧ Fr tlF E E3 ∧ E3 4 16 = 0 ∧ E3 43 = E 43 := ⟨wr E 4 16 0, e3, Fr.refl.wr (by unfold tlF; omega), wr_at, wr_o (by decide)⟩
    subst q0
    refine cV (C_tellFraction (D := E3) (by rw [g2]; decide) (by rw [g2]; decide)) ?_
    rintro m4 ⟨E4, rfl, k1, k2, k3⟩
    refine ⟨rfl, cI C_mostOftenFirst ?_⟩
    rintro x m5 ⟨hx, rfl⟩
    refine ⟨rfl, cV (C_tellMore (D := E4) (by rw [k2, g2]; decide) (by rw [k2, g2]; decide)) ?_⟩
    rintro m6 ⟨E5, rfl, l1, l2, l3⟩
    have e43 : E4 43 = E 43 := by rw [k1.obj (o := 43) (fun j => by unfold tlF; omega), g3]
    have hx : x = (zmo (fun s => zoft (cupv D 5) (hcode D W) (wsv D W a) s n.toNat) 1000).1 := by
      rw [hx, e43]
      refine congrArg Prod.fst (zmo_ext (fun k k0 k1 => ?_))
      rw [hf k (by omega) (by omega), show (s - 1).toNat = n.toNat by omega]
    have hw : ways = zways (cupv D 5) (hcode D W) (wsv D W a) n.toNat := by rw [hw, show (s - 1).toNat = n.toNat by omega]
    have e0 : toldv E3 = [] := by
      unfold toldv
      rw [g2]
      exact lst_0 (by decide)
    refine ⟨_, rfl, Wh_tell (k := 3) hE.1 ((g1.trans k1).trans l1) (by rw [l2, k2, g2]; rfl) l3 ?_ ?_ ?_⟩
    · unfold S_odds
      rw [if_pos ⟨hy, hz⟩]
    · unfold S_odds
      rw [if_pos ⟨hy, hz⟩, k3, e0, hx, hw]
      rfl
    · rw [k3, e0]
      rfl
  obtain ⟨p1, p2, p3, p4⟩ := hE.preA hm hm.1 hy.1 hy.2
  rw [wref hE.1 hy.1 hy.2]
  refine cI (C_spiltOn p1) ?_
  rintro x m3 ⟨E2, rfl, h2, ho, hx⟩
  rw [p2, p3, p4] at ho hx
  have hE2 := hE.run h2
  obtain ⟨q1, q2, q3, q4, q5⟩ := trv_sum ho
  have e43 : E2 43 = E 43 := h2.obj (fun j => by unfold rF; omega)
  have ez : (s + 1 - 1).toNat = (s - 1).toNat + 1 := by omega
  have es : (((s - 1).toNat : Nat) : Int) + 1 = s := by omega
  have stepw : zways (cupv D 5) (hcode D W) (wsv D W a) (s + 1 - 1).toNat = if 0 < x then ways + 1 else ways := by
    rw [ez, hx, hw]
    show (if 0 < oSum (zOn _ _ _ ((((s - 1).toNat : Nat) : Int) + 1)) then _ else _) = _
    rw [es]
  have stepf : ∀ k, zoft (cupv D 5) (hcode D W) (wsv D W a) k (s + 1 - 1).toNat = if 0 < x ∧ zstepAt (wsv D W a) (E2 30 5) = k then zoft (cupv D 5) (hcode D W) (wsv D W a) k (s - 1).toNat + 1 else zoft (cupv D 5) (hcode D W) (wsv D W a) k (s - 1).toNat := fun k => by
    rw [ez, hx, q2]
    show (if 0 < oSum (zOn _ _ _ ((((s - 1).toNat : Nat) : Int) + 1)) ∧ zstepAt _ (oFirst (zOn _ _ _ ((((s - 1).toNat : Nat) : Int) + 1))) = k then _ else _) = _
    rw [es]
  refine ⟨fun c2 v e => ?_, fun c2 v e => ⟨rfl, rfl, bnd (N := 4) rfl hy.1 (by omega), rfl, ?_⟩⟩
  · rw [w32_id (by omega) (by omega)] at e
    subst e
    refine ih (ways, s + 1) _ ⟨E2, rfl, hE2, by dsimp only; omega, by dsimp only; omega, ?_, fun k k0 k1 => ?_⟩ (by dsimp only; omega)
    · dsimp only
      rw [stepw, if_neg (by omega)]
    · dsimp only
      rw [stepf, if_neg (fun q => by omega), e43]
      exact hf k k0 k1
  · rw [w32_id (by omega) (by omega)] at e
    subst e
    obtain ⟨r1, -, -, r4⟩ := hE2.preA hm hm.1 hy.1 hy.2
    rw [wref hE2.1 hy.1 hy.2]
    refine ⟨(sWk_of (n1 := n1) (W := U) r1.2.2.1).1, cI (C_stepAt (D := E2) (sWk_of r1.2.2.1) r1.2.2.2.1 r1.2.2.2.2) ?_⟩
    rintro st m4 ⟨hst, rfl⟩
    refine ⟨rfl, cV (C_countFirst (D := E2)) ?_⟩
    rintro m5 ⟨E3, rfl, k1, k2⟩ v e
    rw [w32_id (by omega) (by omega)] at e
    subst e
    have hE3 : TRc D W E3 U (cupv D 5) := ⟨⟨hE2.1.1.trans (k1.mono (fun q j h => by unfold aF; omega)), hE2.1.2⟩, by rw [cupv_fr k1 (fun q j a b => by omega)]; exact hE2.2.1, hE2.2.2⟩
    refine ih (ways + 1, s + 1) _ ⟨E3, rfl, hE3, by dsimp only; omega, by dsimp only; omega, ?_, fun k k0 k1' => ?_⟩ (by dsimp only; omega)
    · dsimp only
      rw [stepw, if_pos (by omega)]
    · dsimp only
      have zr := zoft_rng (c := cupv D 5) (L := hcode D W) (w := wsv D W a) (s := k) (s - 1).toNat
      rw [k2 k k0 k1', stepf, e43, hf k k0 k1', w32_id (by omega) (by omega)]
      have hst : st = zstepAt (wsv D W a) (E2 30 5) := by rw [hst, r4]; rfl
      by_cases q : k = st
      · rw [if_pos q, if_pos ⟨by omega, by rw [q, hst]⟩]
      · rw [if_neg q, if_neg (fun z => q (by rw [hst]; exact z.2.symm))]
theorem C_few {a x : Int} (hm : MP D W) : Cl (d + 7) 0 0 mX9_few [vr 4, vi a, vi x] (D, rho n1 W) (KI (Wh n1 D W (S_few (cupv D 5) (hcode D W) (wsv D W) a x))) := by
  have no : ¬ ((0 ≤ a ∧ a ≤ 3) ∧ (0 ≤ x ∧ x ≤ 99)) → Wh n1 D W (S_few (cupv D 5) (hcode D W) (wsv D W) a x) (-1) (D, rho n1 W) := fun h => Wh_no AF.refl (by unfold S_few; rw [if_neg h]) (by unfold S_few; rw [if_neg h])
  have hcl : 1 ≤ cLast (cupv D 5) ∧ cLast (cupv D 5) ≤ 19 := ⟨hm.1.1, hm.1.2.1⟩
  have hL : ∀ {E : DD} {V : Nat → Nat}, AF D W E V → E 5 0 = cLast (cupv D 5) := fun h => h.1 5 0 (by unfold aF; omega)
  have hH : ∀ {E : DD} {V : Nat → Nat}, AF D W E V → ∀ g, 0 ≤ g → g < 20 → E 7 g = cHole (cupv D 5) g := fun h g g0 g1 => by
    rw [h.1 7 g (by unfold aF; omega)]
    exact (cut_in g0 g1).symm
  generalize eL : cLast (cupv D 5) = last at hcl hL
  refine Cl_of mb_X9_few (Nat.le_of_ble_eq_true rfl) (sg_X9_few_0 (cB C_isWalk (fun hy => yE (cB C_isIn (fun hz => yN ⟨rfl, cR (C_asItIs hm) ?_⟩) (fun hz => nN ⟨_, rfl, no (fun q => hz q.2)⟩))) (fun hy => nE ⟨_, rfl, no (fun q => hy q.1)⟩)))
  rintro b m1 ⟨rfl, G, U, rfl, hT⟩
  have hT := hT.c
  obtain ⟨p1, p2, p3, p4⟩ := hT.preA hm hm.1 hy.1 hy.2
  rw [wref hT.1 hy.1 hy.2]
  refine ⟨rfl, rfl, bnd (N := 4) rfl hy.1 (by omega), rfl, cI (C_keepsAll p1) ?_⟩
  rintro r0 m2 ⟨G2, rfl, h2, hr0, -⟩
  rw [p2, p3, p4] at hr0
  have hT2 := hT.run h2
  refine ⟨fun c0 => ?_, fun c0 => ⟨rfl, fun m5 e5 => ⟨_, rfl, Wh_tell (D' := wr G2 4 16 0) (k := 0) (l := []) hT2.1 (Fr.refl.wr (by unfold tlF; omega)) wr_at ?_ ?_ ?_ rfl |> fun h => e5 ▸ h⟩⟩⟩
  rotate_left
  · unfold toldv
    rw [wr_at, lst_0 (by decide)]
  · unfold S_few
    rw [if_pos ⟨hy, hz⟩, if_pos (Decidable.byContradiction fun z => c0 (by rw [hr0]; exact bi_0 z))]
  · unfold S_few
    rw [if_pos ⟨hy, hz⟩, if_pos (Decidable.byContradiction fun z => c0 (by rw [hr0]; exact bi_0 z))]
  have n0 : ¬ oSum (zOn (cupv D 5) (hcode D W) (wsv D W a) 1) = 0 := fun z => by rw [hr0, bi_1 z] at c0; exact absurd c0 (by decide)
  have hS : S_few (cupv D 5) (hcode D W) (wsv D W) a x = if zfirst (zw1 (cupv D 5) (hcode D W) (wsv D W a) x) last.toNat 0 ≠ -2 then (1, some [zfirst (zw1 (cupv D 5) (hcode D W) (wsv D W a) x) last.toNat 0])
      else if (zpair (zw2 (cupv D 5) (hcode D W) (wsv D W a) x) last last.toNat 0).1 ≠ -2 then (2, some [(zpair (zw2 (cupv D 5) (hcode D W) (wsv D W a) x) last last.toNat 0).1, (zpair (zw2 (cupv D 5) (hcode D W) (wsv D W a) x) last last.toNat 0).2]) else (-2, none) := by
    unfold S_few
    rw [if_pos ⟨hy, hz⟩, if_neg n0, eL]
  generalize S_few (cupv D 5) (hcode D W) (wsv D W) a x = S at hS ⊢
  -- two walls
  have two : zfirst (zw1 (cupv D 5) (hcode D W) (wsv D W a) x) last.toNat 0 = -2 → ∀ (E : DD) (V : Nat → Nat), AF D W E V → Wp (d + 7) 0 0 mX9_few 98 [some (vr 4), some (vi a), some (vi x), some (vi 0), none] [] (E, rho n1 V) (KI (Wh n1 D W S)) := by
    intro h1 E V hA
    rw [if_neg (fun q => q h1)] at hS
    refine Wp.loop (σ := Int) (fun i => [some (vr 4), some (vi a), some (vi x), some (vi i), none])
      (fun i μ => ∃ (E : DD) (V : Nat → Nat), μ = (E, rho n1 V) ∧ AF D W E V ∧ 0 ≤ i ∧ i ≤ last ∧ zpair (zw2 (cupv D 5) (hcode D W) (wsv D W a) x) last last.toNat 0 = zpair (zw2 (cupv D 5) (hcode D W) (wsv D W a) x) last (last - i).toNat i)
      (fun i => (last - i).toNat) ?_ 0 (E, rho n1 V) ⟨E, V, rfl, hA, by decide, by omega, by rw [show last - 0 = last by omega]⟩
    clear hA
    rintro i μ ⟨E, V, rfl, hA, i0, i1, hv⟩ ih
    have e50 : mD (E, rho n1 V) (mR (E, rho n1 V) 4 0) 0 = last := hL hA
    refine sg_X9_few_98 ⟨rfl, rfl, ?_⟩
    rw [e50]
    refine ⟨fun c => ⟨_, rfl, Wh_no hA ?_ ?_⟩, fun c v e => ?_⟩
    · rw [hS, hv, show (last - i).toNat = 0 by omega]
      rfl
    · rw [hS, hv, show (last - i).toNat = 0 by omega]
      rfl
    rw [w32_id (by omega) (by omega)] at e
    subst e
    have hp : zpair (zw2 (cupv D 5) (hcode D W) (wsv D W a) x) last (last - i).toNat i = if zfirst (zw2 (cupv D 5) (hcode D W) (wsv D W a) x i) (last - (i + 1)).toNat (i + 1) = -2 then zpair (zw2 (cupv D 5) (hcode D W) (wsv D W a) x) last (last - (i + 1)).toNat (i + 1) else (i, zfirst (zw2 (cupv D 5) (hcode D W) (wsv D W a) x i) (last - (i + 1)).toNat (i + 1)) := by
      rw [show (last - i).toNat = (last - (i + 1)).toNat + 1 by omega]
      rfl
    refine Wp.loop (σ := Int) (fun j => [some (vr 4), some (vi a), some (vi x), some (vi i), some (vi j)])
      (fun j μ => ∃ (E : DD) (V : Nat → Nat), μ = (E, rho n1 V) ∧ AF D W E V ∧ i + 1 ≤ j ∧ j ≤ last ∧ zfirst (zw2 (cupv D 5) (hcode D W) (wsv D W a) x i) (last - (i + 1)).toNat (i + 1) = zfirst (zw2 (cupv D 5) (hcode D W) (wsv D W a) x i) (last - j).toNat j)
      (fun j => (last - j).toNat) ?_ (i + 1) (E, rho n1 V) ⟨E, V, rfl, hA, Int.le_refl _, by omega, rfl⟩
    clear hA e50
    rintro j μ ⟨E, V, rfl, hA, j0, j1, hj⟩ ih2
    have e50 : mD (E, rho n1 V) (mR (E, rho n1 V) 4 0) 0 = last := hL hA
    have eo : ∀ g, 0 ≤ g → g < last → ((0 ≤ g ∧ g ≤ E 5 0 - 1) ∧ E 7 g = 100 ↔ cHole (cupv D 5) g = 100) := fun g g0 g1 => by
      rw [hL hA, hH hA g g0 (by omega)]
      exact ⟨fun q => q.2, fun q => ⟨⟨g0, by omega⟩, q⟩⟩
    have hf : j < last → zfirst (zw2 (cupv D 5) (hcode D W) (wsv D W a) x i) (last - j).toNat j = if zw2 (cupv D 5) (hcode D W) (wsv D W a) x i j = true then j else zfirst (zw2 (cupv D 5) (hcode D W) (wsv D W a) x i) (last - (j + 1)).toNat (j + 1) := fun h => by
      rw [show (last - j).toNat = (last - (j + 1)).toNat + 1 by omega]
      rfl
    have skip : j < last → zw2 (cupv D 5) (hcode D W) (wsv D W a) x i j = false → ∀ (H : DD) (V2 : Nat → Nat), AF D W H V2 → ∀ v, v = w32 (j + 1) → Wp (d + 7) 0 0 mX9_few 114 [some (vr 4), some (vi a), some (vi x), some (vi i), some (vi v)] [] (H, rho n1 V2) (KI (Wh n1 D W S)) := by
      rintro hj1 hz2 H V2 hA2 v rfl
      rw [w32_id (by omega) (by omega)]
      exact ih2 (j + 1) _ ⟨H, V2, rfl, hA2, by omega, by omega, by rw [hj, hf hj1, hz2]; rfl⟩ (by omega)
    refine sg_X9_few_114 ⟨rfl, rfl, ?_⟩
    rw [e50]
    refine ⟨fun c v e => ?_, fun c => cB (C_isOpen (by rw [hL hA]; exact hcl.1) (by rw [hL hA]; exact hcl.2)) (fun hi => yE ⟨rfl, cB (C_isOpen (by rw [hL hA]; exact hcl.1) (by rw [hL hA]; exact hcl.2)) (fun hj2 => yE ⟨rfl, cR (C_walled (hA.mp hm) i0 (by omega) (by omega) (by omega)) ?_⟩) (fun hj2 => nE (fun v e => skip (by omega) ?_ E V hA v e))⟩) (fun hi => nE (fun v e => skip (by omega) ?_ E V hA v e))⟩
    · rw [w32_id (by omega) (by omega)] at e
      subst e
      refine ih (i + 1) _ ⟨E, V, rfl, hA, by omega, by omega, ?_⟩ (by omega)
      rw [hv, hp, if_pos (by rw [hj, show (last - j).toNat = 0 by omega]; rfl)]
    · rintro b m3 ⟨rfl, H, V2, rfl, hT3⟩
      have hT3 := TRc.back hA hm hT3
      rw [hA.cup] at hT3
      obtain ⟨p1, p2, p3, p4⟩ := hT3.preA hm (COK_hole (COK_hole hm.1 hz.1 (by omega)) hz.1 (by omega)) hy.1 hy.2
      rw [wref hT3.1 hy.1 hy.2]
      refine ⟨rfl, rfl, bnd (N := 4) rfl hy.1 (by omega), rfl, cI (C_keepsAll p1) ?_⟩
      rintro r m4 ⟨H2, rfl, h3, hr, -⟩
      rw [p2, p3, p4] at hr
      have hT4 := hT3.run h3
      have hzz : zw2 (cupv D 5) (hcode D W) (wsv D W a) x i j = decide (oSum (zOn (zHole (zHole (cupv D 5) i x) j x) (hcode D W) (wsv D W a) 1) = 0) := by
        unfold zw2
        rw [decide_eq_true ((eo i i0 (by omega)).mp hi), decide_eq_true ((eo j (by omega) (by omega)).mp hj2)]
        rfl
      refine ⟨fun c2 v e => skip (by omega) ?_ H2 V2 hT4.1 v e, fun c2 => ⟨rfl, cV C_tell2 ?_⟩⟩
      · rw [hzz]
        exact decide_eq_false (fun q => by rw [hr, bi_1 q] at c2; exact absurd c2 (by decide))
      · rintro m5 ⟨H3, rfl, g1, g2, g3⟩
        have hq : oSum (zOn (zHole (zHole (cupv D 5) i x) j x) (hcode D W) (wsv D W a) 1) = 0 := Decidable.byContradiction fun q => c2 (by rw [hr]; exact bi_0 q)
        have e1 : zfirst (zw2 (cupv D 5) (hcode D W) (wsv D W a) x i) (last - (i + 1)).toNat (i + 1) = j := by
          rw [hj, hf (by omega), hzz, decide_eq_true hq]
          rfl
        have e2 : zpair (zw2 (cupv D 5) (hcode D W) (wsv D W a) x) last last.toNat 0 = (i, j) := by
          rw [hv, hp, e1, if_neg (by omega)]
        refine ⟨_, rfl, Wh_tell hT4.1 g1 g2 g3 ?_ ?_ rfl⟩ <;> rw [hS, e2, if_pos (by show i ≠ -2; omega)]
    · unfold zw2
      rw [decide_eq_true ((eo i i0 (by omega)).mp hi), decide_eq_false (fun q => hj2 ((eo j (by omega) (by omega)).mpr q))]
      rfl
    · unfold zw2
      rw [decide_eq_false (fun q => hi ((eo i i0 (by omega)).mpr q))]
      rfl
  refine Wp.loop (σ := Int) (fun i => [some (vr 4), some (vi a), some (vi x), some (vi i), none])
    (fun i μ => ∃ (E : DD) (V : Nat → Nat), μ = (E, rho n1 V) ∧ AF D W E V ∧ 0 ≤ i ∧ i ≤ last ∧ zfirst (zw1 (cupv D 5) (hcode D W) (wsv D W a) x) last.toNat 0 = zfirst (zw1 (cupv D 5) (hcode D W) (wsv D W a) x) (last - i).toNat i)
    (fun i => (last - i).toNat) ?_ 0 (G2, rho n1 U) ⟨G2, U, rfl, hT2.1, by decide, by omega, by rw [show last - 0 = last by omega]⟩
  rintro i μ ⟨E, V, rfl, hA, i0, i1, hv⟩ ih
  have e50 : mD (E, rho n1 V) (mR (E, rho n1 V) 4 0) 0 = last := hL hA
  have eo : i < last → ((0 ≤ i ∧ i ≤ E 5 0 - 1) ∧ E 7 i = 100 ↔ cHole (cupv D 5) i = 100) := fun g1 => by
    rw [hL hA, hH hA i i0 (by omega)]
    exact ⟨fun q => q.2, fun q => ⟨⟨i0, by omega⟩, q⟩⟩
  have hf : i < last → zfirst (zw1 (cupv D 5) (hcode D W) (wsv D W a) x) (last - i).toNat i = if zw1 (cupv D 5) (hcode D W) (wsv D W a) x i = true then i else zfirst (zw1 (cupv D 5) (hcode D W) (wsv D W a) x) (last - (i + 1)).toNat (i + 1) := fun h => by
    rw [show (last - i).toNat = (last - (i + 1)).toNat + 1 by omega]
    rfl
  have skip : i < last → zw1 (cupv D 5) (hcode D W) (wsv D W a) x i = false → ∀ (H : DD) (V2 : Nat → Nat), AF D W H V2 → ∀ v, v = w32 (i + 1) → Wp (d + 7) 0 0 mX9_few 44 [some (vr 4), some (vi a), some (vi x), some (vi v), none] [] (H, rho n1 V2) (KI (Wh n1 D W S)) := by
    rintro hj1 hz2 H V2 hA2 v rfl
    rw [w32_id (by omega) (by omega)]
    exact ih (i + 1) _ ⟨H, V2, rfl, hA2, by omega, by omega, by rw [hv, hf hj1, hz2]; rfl⟩ (by omega)
  refine sg_X9_few_44 ⟨rfl, rfl, ?_⟩
  rw [e50]
  refine ⟨fun c => two (by rw [hv, show (last - i).toNat = 0 by omega]; rfl) E V hA, fun c => cB (C_isOpen (by rw [hL hA]; exact hcl.1) (by rw [hL hA]; exact hcl.2)) (fun hi => yE ⟨rfl, cR (C_walled (hA.mp hm) i0 (by omega) i0 (by omega)) ?_⟩) (fun hi => nE (fun v e => skip (by omega) ?_ E V hA v e))⟩
  · rintro b m3 ⟨rfl, H, V2, rfl, hT3⟩
    have hT3 := TRc.back hA hm hT3
    rw [hA.cup, zHole_twice] at hT3
    obtain ⟨p1, p2, p3, p4⟩ := hT3.preA hm (COK_hole hm.1 hz.1 (by omega)) hy.1 hy.2
    rw [wref hT3.1 hy.1 hy.2]
    refine ⟨rfl, rfl, bnd (N := 4) rfl hy.1 (by omega), rfl, cI (C_keepsAll p1) ?_⟩
    rintro r m4 ⟨H2, rfl, h3, hr, -⟩
    rw [p2, p3, p4] at hr
    have hT4 := hT3.run h3
    have hzz : zw1 (cupv D 5) (hcode D W) (wsv D W a) x i = decide (oSum (zOn (zHole (cupv D 5) i x) (hcode D W) (wsv D W a) 1) = 0) := by
      unfold zw1
      rw [decide_eq_true ((eo (by omega)).mp hi)]
      rfl
    refine ⟨fun c2 v e => skip (by omega) ?_ H2 V2 hT4.1 v e, fun c2 => ⟨rfl, cV C_tell1 ?_⟩⟩
    · rw [hzz]
      exact decide_eq_false (fun q => by rw [hr, bi_1 q] at c2; exact absurd c2 (by decide))
    · rintro m5 ⟨H3, rfl, g1, g2, g3⟩
      have hq : oSum (zOn (zHole (cupv D 5) i x) (hcode D W) (wsv D W a) 1) = 0 := Decidable.byContradiction fun q => c2 (by rw [hr]; exact bi_0 q)
      have e1 : zfirst (zw1 (cupv D 5) (hcode D W) (wsv D W a) x) last.toNat 0 = i := by
        rw [hv, hf (by omega), hzz, decide_eq_true hq]
        rfl
      refine ⟨_, rfl, Wh_tell hT4.1 g1 g2 g3 ?_ ?_ rfl⟩ <;> rw [hS, e1, if_pos (by omega)]
  · unfold zw1
    rw [decide_eq_false (fun q => hi ((eo (by omega)).mpr q))]
    rfl
end PUB5
