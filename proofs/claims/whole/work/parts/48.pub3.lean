/-! ===== what the class's calls answer, 3: other laws, walls, swings ===== -/
/-- the Trial, with another cup, by another law -/
def TRl (D : DD) (W : Nat → Nat) (D' : DD) (W' : Nat → Nat) (c : Cv) (l : Nat) : Prop := AF D W D' W' ∧ cupv D' 31 = c ∧ W' 9 = l
theorem TRl.preA {D E : DD} {W V : Nat → Nat} {c : Cv} {l : Nat} (h : TRl D W E V c l) (hm : MP D W) (hc : COK c) (hl : l = 0 ∨ lawId l) {a : Int} (a0 : 0 ≤ a) (a1 : a ≤ 3) : TPre E V (W a.toNat) ∧ cupv E 31 = c ∧ lawO E (V 9) = lawO D l ∧ wkv E (W a.toNat) = wsv D W a := by
  obtain ⟨e1, e2, e3⟩ := h.1.walk hm (i := a.toNat) (by omega)
  refine ⟨⟨by rw [h.2.1]; exact hc, by rw [h.2.2]; exact hl, hm.2.1 _ (by omega), by rw [e3]; exact (hm.2.2.2 _ (by omega)).1, by rw [e3]; exact (hm.2.2.2 _ (by omega)).2⟩, h.2.1, ?_, e2⟩
  rw [h.2.2]
  exact h.1.lw hl
theorem TRl.run {D E E' : DD} {W V : Nat → Nat} {c : Cv} {l : Nat} (h : TRl D W E V c l) (hF : Fr rF E E') : TRl D W E' V c l :=
  ⟨⟨h.1.1.trans (hF.mono rF_aF), h.1.2⟩, by rw [cupv_fr hF (fun q j a b => by unfold rF; omega)]; exact h.2.1, h.2.2⟩
theorem TRc.law {D E : DD} {W V : Nat → Nat} {c : Cv} {l : Nat} (h : TRc D W E V c) : TRl D W E (uW V 9 l) c l :=
  ⟨⟨h.1.1, fun i hi => (uW_ne hi).trans (h.1.2 i hi)⟩, h.2.1, uW_at⟩
theorem zOn_len {c : Cv} {L : Option (List Int)} {w : Wv} {s : Int} : (oList (zOn c L w s)).length ≤ (wTicks w).toNat := by
  have := zrun_len (cap := 1040) (c := c) (L := L) (w := w) (t := fun _ => 0) (n := (wTicks w).toNat) (i := 0) (z := zbeg0 c s)
  exact Nat.le_trans this (by show 0 + _ ≤ _; omega)
theorem lawsv_some {D : DD} {W : Nat → Nat} {l : Int} : (lawsv D W l).isSome = true ↔ tlaw D W l ≠ 0 := by
  unfold lawsv lawO
  by_cases e : tlaw D W l = 0
  · rw [if_pos e]
    exact ⟨fun h => absurd h (by decide), fun h => absurd e h⟩
  · rw [if_neg e]
    exact ⟨fun _ => e, fun _ => rfl⟩
def zfar (c : Cv) (lw : Int → Option (List Int)) (w : Wv) (sp : List Int) (h : Int) : Int := zdist sp (oList (zOn c (lw h) w 1))
def S_far (c : Cv) (lw : Int → Option (List Int)) (ws : Int → Wv) (sp : List Int) (a h : Int) : Int × Option (List Int) := (if (0 ≤ a ∧ a ≤ 3) ∧ (h = 3 ∨ (lw h).isSome = true) then zfar c lw (ws a) sp h else -1, none)
/-- who went: least, whose WALK, whose hand, how many so -/
abbrev Who : Type := Int × Int × Int × Int
def zwho1 (c : Cv) (lw : Int → Option (List Int)) (ws : Int → Wv) (sp : List Int) (i h : Int) (s : Who) : Who :=
  if wTicks (ws i) = 0 ∨ ¬ (h = 3 ∨ (lw h).isSome = true) then s
  else if zfar c lw (ws i) sp h < s.1 then (zfar c lw (ws i) sp h, i, h, 1)
  else (s.1, s.2.1, s.2.2.1, w32 (s.2.2.2 + (if zfar c lw (ws i) sp h = s.1 then 1 else 0)))
def zwho (c : Cv) (lw : Int → Option (List Int)) (ws : Int → Wv) (sp : List Int) : Nat → Who
  | 0 => (2147483647, -1, -1, 0)
  | n + 1 => zwho1 c lw ws sp (n / 4 : Nat) (n % 4 : Nat) (zwho c lw ws sp n)
def S_who (c : Cv) (lw : Int → Option (List Int)) (ws : Int → Wv) (sp : List Int) : Int × Option (List Int) :=
  if (zwho c lw ws sp 16).2.1 = -1 then (-2, none) else ((zwho c lw ws sp 16).1, some [(zwho c lw ws sp 16).2.1, (zwho c lw ws sp 16).2.2.1, (zwho c lw ws sp 16).2.2.2])
def zbits (f : Nat → Int) (b : Int) : Nat → Int
  | 0 => 0
  | n + 1 => if f n < b then bOr (zbits f b n) (bShl 1 n) else zbits f b n
def zhelp (c : Cv) (L : Option (List Int)) (w : Wv) (k : Nat) : Int := oSum (zOn (zSet c 5 k) L w 1)
def S_helps (c : Cv) (lw : Int → Option (List Int)) (ws : Int → Wv) (a l : Int) : Int × Option (List Int) :=
  if (0 ≤ a ∧ a ≤ 3) ∧ (lw l).isSome = true then (zbits (zhelp c (lw l) (ws a)) (oSum (zOn c none (ws a) 1)) 21,
    some [oSum (zOn c none (ws a) 1), (zmn (zhelp c (lw l) (ws a)) (fun k => k) 21).2, (zmn (zhelp c (lw l) (ws a)) (fun k => k) 21).1]) else (-1, none)
def S_off (c : Cv) (tilt n k : Int) : Int × Option (List Int) :=
  if (1 ≤ tilt ∧ tilt ≤ 500) ∧ (1 ≤ n ∧ n ≤ 400) ∧ (0 ≤ k ∧ k ≤ 9) then (0, some [zlate c tilt n k, zlate c tilt n 0, zup (if zlate c tilt n 0 = 0 then 0 else w32 (zlate c tilt n 0 - zlate c tilt n k)) (zlate c tilt n 0), zlow (if zlate c tilt n 0 = 0 then 0 else w32 (zlate c tilt n 0 - zlate c tilt n k)) (zlate c tilt n 0)]) else (-1, none)
def zswing (c : Cv) (tilt : Int) : Int := zfirst (fun k => decide (zlg c tilt (k - 1) < zlg c tilt k ∧ zlg c tilt (k + 1) ≤ zlg c tilt k)) 398 2
def S_swing (c : Cv) (tilt : Int) : Int × Option (List Int) := if 1 ≤ tilt ∧ tilt ≤ 500 then (if zswing c tilt = -2 then (-2, none) else (zswing c tilt, some [zlg c tilt 0, zlg c tilt (zswing c tilt)])) else (-1, none)
def zdie (c : Cv) (tilt most : Int) : Nat → Int
  | 0 => 0
  | n + 1 => if zabs (zlg c tilt n) ≤ most then zdie c tilt most n else n + 1
def zdies (c : Cv) (tilt part : Int) : Int := zdie c tilt (w32 ((w32 (zabs (zlg c tilt 0) * part)).tdiv 100)) 401
def S_dies (c : Cv) (tilt part : Int) : Int × Option (List Int) := (if (1 ≤ tilt ∧ tilt ≤ 500) ∧ (1 ≤ part ∧ part ≤ 100) then (if 400 < zdies c tilt part then -2 else zdies c tilt part) else -1, none)
section PUB3
variable {d n1 : Nat} {W : Nat → Nat} {D : DD}
theorem AF.spots {D' : DD} {W' : Nat → Nat} (h : AF D W D' W') : spotsv D' = spotsv D ∧ D' 4 13 = D 4 13 := by
  unfold spotsv
  rw [h.1.obj (o := 92) (fun j => by unfold aF; omega), h.1 4 13 (by unfold aF; omega)]
  exact ⟨rfl, rfl⟩
theorem C_far {a h : Int} (hm : MP D W) (hsp : D 4 13 ≤ 12) : Cl (d + 7) 0 0 mX9_far [vr 4, vi a, vi h] (D, rho n1 W) (KI (Wh n1 D W (S_far (cupv D 5) (lawsv D W) (wsv D W) (spotsv D) a h))) := by
  refine Cl_of mb_X9_far (Nat.le_of_ble_eq_true rfl) (sg_X9_far_0 (cB C_isWalk (fun hy => yE ⟨rfl, cB (C_isHand hm) (fun hz => yN ⟨rfl, cR (C_asItIs hm) ?_⟩) (fun hz => nN ⟨_, rfl, Wh_no AF.refl (if_neg (fun q => hz (q.2.imp id lawsv_some.mp))).symm rfl⟩)⟩) (fun hy => nE ⟨_, rfl, Wh_no AF.refl (if_neg (fun q => hy q.1)).symm rfl⟩)))
  rintro b m1 ⟨rfl, G, U, rfl, hT⟩
  have hT := hT.c
  refine ⟨rfl, cR (C_toldLaw (hT.1.mp hm)) ?_⟩
  rintro l m2 ⟨hl, rfl⟩
  rw [hT.1.tl hm] at hl
  refine ⟨rfl, fun m3 e3 => ?_⟩
  have e3 : m3 = (G, rho n1 (uW U 9 l)) := e3.trans sR_30
  subst e3
  have hT2 : TRl D W G (uW U 9 l) (cupv D 5) l := hT.law
  have hid : l = 0 ∨ lawId l := by rw [hl]; exact tlaw_id hm
  obtain ⟨p1, p2, p3, p4⟩ := hT2.preA hm hm.1 hid hy.1 hy.2
  rw [wref hT2.1 hy.1 hy.2]
  refine ⟨rfl, rfl, bnd (N := 4) rfl hy.1 (by omega), rfl, cI (C_spiltOn p1) ?_⟩
  rintro x m4 ⟨H, rfl, h2, ho, -⟩
  rw [p2, p3, p4] at ho
  have hT3 := hT2.run h2
  obtain ⟨q1, q2, q3, q4, q5⟩ := trv_sum ho
  have hlen := zOn_len (c := cupv D 5) (L := lawO D l) (w := wsv D W a) (s := 1)
  rw [← q5, lst_len] at hlen
  have ht := (hm.2.2.2 a.toNat (by omega)).2
  change wTicks (wsv D W a) ≤ 1000 at ht
  refine ⟨rfl, cI (C_distance (D := H) (by rw [hT3.1.spots.2]; exact hsp) (by omega)) ?_⟩
  rintro x2 m5 ⟨rfl, rfl⟩
  refine ⟨_, rfl, Wh_no hT3.1 ?_ rfl⟩
  unfold S_far zfar
  rw [if_pos ⟨hy, hz.imp id lawsv_some.mpr⟩, q5, hT3.1.spots.1, hl]
  rfl
theorem C_who (hm : MP D W) (hsp : D 4 13 ≤ 12) : Cl (d + 7) 0 0 mX9_who [vr 4] (D, rho n1 W) (KI (Wh n1 D W (S_who (cupv D 5) (lawsv D W) (wsv D W) (spotsv D)))) := by
  refine Cl_of mb_X9_who (Nat.le_of_ble_eq_true rfl) (sg_X9_who_0 ?_)
  -- least, walk, hand, alike; the outer loop's walk
  refine Wp.loop (σ := Who × Int) (fun z => [some (vr 4), some (vi z.1.1), some (vi z.1.2.1), some (vi z.1.2.2.1), some (vi z.1.2.2.2), some (vi z.2), none, none, none])
    (fun z μ => ∃ (E : DD) (V : Nat → Nat), μ = (E, rho n1 V) ∧ AF D W E V ∧ 0 ≤ z.2 ∧ z.2 ≤ 4 ∧ z.1 = zwho (cupv D 5) (lawsv D W) (wsv D W) (spotsv D) (4 * z.2).toNat)
    (fun z => (4 - z.2).toNat) ?_ ((2147483647, -1, -1, 0), 0) (D, rho n1 W) ⟨D, W, rfl, AF.refl, by decide, by decide, rfl⟩
  rintro ⟨s, i⟩ μ ⟨E, V, rfl, hA, i0, i1, hv⟩ ih
  dsimp only at i0 i1 hv ih ⊢
  refine sg_X9_who_14 ⟨fun c => ⟨fun c2 => ⟨rfl, cV C_tell3 ?_⟩, fun c2 => ⟨_, rfl, Wh_no hA ?_ ?_⟩⟩, fun c => ?_⟩
  · rintro m ⟨E4, rfl, g1, g2, g3⟩
    have e : s = zwho (cupv D 5) (lawsv D W) (wsv D W) (spotsv D) 16 := by rw [hv, show (4 * i).toNat = 16 by omega]
    refine ⟨_, rfl, Wh_tell hA g1 g2 g3 ?_ ?_ rfl⟩ <;> unfold S_who <;> rw [← e, if_neg c2]
  · have e : s = zwho (cupv D 5) (lawsv D W) (wsv D W) (spotsv D) 16 := by rw [hv, show (4 * i).toNat = 16 by omega]
    unfold S_who
    rw [← e, if_pos c2]
  · have e : s = zwho (cupv D 5) (lawsv D W) (wsv D W) (spotsv D) 16 := by rw [hv, show (4 * i).toNat = 16 by omega]
    unfold S_who
    rw [← e, if_pos c2]
  refine Wp.loop (σ := Who × Int) (fun z => [some (vr 4), some (vi z.1.1), some (vi z.1.2.1), some (vi z.1.2.2.1), some (vi z.1.2.2.2), some (vi i), some (vi z.2), none, none])
    (fun z μ => ∃ (E : DD) (V : Nat → Nat), μ = (E, rho n1 V) ∧ AF D W E V ∧ 0 ≤ z.2 ∧ z.2 ≤ 4 ∧ z.1 = zwho (cupv D 5) (lawsv D W) (wsv D W) (spotsv D) (4 * i + z.2).toNat)
    (fun z => (4 - z.2).toNat) ?_ (s, 0) (E, rho n1 V) ⟨E, V, rfl, hA, by dsimp only; decide, by dsimp only; decide, by rw [hv, Int.add_zero]⟩
  clear hA hv
  rintro ⟨t, j⟩ μ ⟨G, U, rfl, hA, j0, j1, hv⟩ ih2
  dsimp only at j0 j1 hv ih2 ⊢
  have hy : 0 ≤ i ∧ i ≤ 3 := ⟨i0, by omega⟩
  have hs : j ≤ 3 → zwho (cupv D 5) (lawsv D W) (wsv D W) (spotsv D) (4 * i + (j + 1)).toNat = zwho1 (cupv D 5) (lawsv D W) (wsv D W) (spotsv D) i j t := fun hj => by
    rw [hv, show (4 * i + (j + 1)).toNat = (4 * i + j).toNat + 1 by omega]
    show zwho1 _ _ _ _ (((4 * i + j).toNat / 4 : Nat) : Int) (((4 * i + j).toNat % 4 : Nat) : Int) _ = _
    rw [show (((4 * i + j).toNat / 4 : Nat) : Int) = i by omega, show (((4 * i + j).toNat % 4 : Nat) : Int) = j by omega]
  have wt : ∀ V9, mD (G, rho n1 V9) (W i.toNat) 4 = wTicks (wsv D W i) := fun _ => (hA.walk hm (i := i.toNat) (by omega)).2.2
  refine sg_X9_who_23 ⟨fun c2 v e => ?_, fun c2 => ⟨rfl, rfl, bnd (N := 4) rfl i0 (by omega), ?_⟩⟩
  · rw [w32_id (by omega) (by omega)] at e
    subst e
    refine ih (t, i + 1) _ ⟨G, U, rfl, hA, by dsimp only; omega, by dsimp only; omega, ?_⟩ (by dsimp only; omega)
    dsimp only
    rw [hv, show 4 * i + j = 4 * (i + 1) by omega]
  rw [wref hA hy.1 hy.2, wt]
  refine ⟨(sWk_of (n1 := n1) (W := U) (hm.2.1 i.toNat (by omega))).1, fun c3 v e => ?_, fun c3 => cB (C_isHand (hA.mp hm)) (fun hz => yN ⟨rfl, cR (C_asItIs (hA.mp hm)) ?_⟩) (fun hz => nN (fun v e => ?_))⟩
  · rw [w32_id (by omega) (by omega)] at e
    subst e
    refine ih2 (t, j + 1) _ ⟨G, U, rfl, hA, by dsimp only; omega, by dsimp only; omega, ?_⟩ (by dsimp only; omega)
    dsimp only
    rw [hs (by omega)]
    unfold zwho1
    rw [if_pos (Or.inl c3)]
  · rintro b m1 ⟨rfl, G2, U2, rfl, hT⟩
    have hT := TRc.back hA hm hT.c
    rw [hA.cup] at hT
    rw [hA.tl hm] at hz
    refine ⟨rfl, cR (C_toldLaw (hT.1.mp hm)) ?_⟩
    rintro l m2 ⟨hl, rfl⟩
    rw [hT.1.tl hm] at hl
    refine ⟨rfl, fun m3 e3 => ?_⟩
    have e3 : m3 = (G2, rho n1 (uW U2 9 l)) := e3.trans sR_30
    subst e3
    have hT2 : TRl D W G2 (uW U2 9 l) (cupv D 5) l := hT.law
    have hid : l = 0 ∨ lawId l := by rw [hl]; exact tlaw_id hm
    obtain ⟨p1, p2, p3, p4⟩ := hT2.preA hm hm.1 hid hy.1 hy.2
    rw [wref hT2.1 hy.1 hy.2]
    refine ⟨rfl, rfl, bnd (N := 4) rfl hy.1 (by omega), rfl, cI (C_spiltOn p1) ?_⟩
    rintro x m4 ⟨H, rfl, h2, ho, -⟩
    rw [p2, p3, p4] at ho
    have hT3 := hT2.run h2
    obtain ⟨q1, q2, q3, q4, q5⟩ := trv_sum ho
    have hlen := zOn_len (c := cupv D 5) (L := lawO D l) (w := wsv D W i) (s := 1)
    rw [← q5, lst_len] at hlen
    have ht := (hm.2.2.2 i.toNat (by omega)).2
    change wTicks (wsv D W i) ≤ 1000 at ht
    refine ⟨rfl, cI (C_distance (D := H) (by rw [hT3.1.spots.2]; exact hsp) (by omega)) ?_⟩
    rintro x2 m5 ⟨hx2, rfl⟩
    have hx2 : x2 = zfar (cupv D 5) (lawsv D W) (wsv D W i) (spotsv D) j := by
      rw [hx2, q5, hT3.1.spots.1, hl]
      rfl
    have hok : ¬ (wTicks (wsv D W i) = 0 ∨ ¬ (j = 3 ∨ (lawsv D W j).isSome = true)) := fun z => z.elim c3 (fun z => z (hz.imp id lawsv_some.mpr))
    have next : ∀ t' : Who, t' = zwho1 (cupv D 5) (lawsv D W) (wsv D W) (spotsv D) i j t → ∀ v, v = w32 (j + 1) → Wp (d + 7) 0 0 mX9_who 23 [some (vr 4), some (vi t'.1), some (vi t'.2.1), some (vi t'.2.2.1), some (vi t'.2.2.2), some (vi i), some (vi v), none, none] [] (H, rho n1 (uW U2 9 l)) (KI (Wh n1 D W (S_who (cupv D 5) (lawsv D W) (wsv D W) (spotsv D)))) := by
      rintro t' ht' v rfl
      rw [w32_id (by omega) (by omega)]
      refine ih2 (t', j + 1) _ ⟨H, _, rfl, hT3.1, by dsimp only; omega, by dsimp only; omega, ?_⟩ (by dsimp only; omega)
      dsimp only
      rw [hs (by omega), ht']
    refine ⟨fun c4 => sg_X9_who_111 ⟨fun c5 v e => ?_, fun c5 v e => ?_⟩, fun c4 => sg_X9_who_111 ⟨fun c5 => absurd rfl c5, fun c5 v e => ?_⟩⟩
    · refine next (t.1, t.2.1, t.2.2.1, v) ?_
      unfold zwho1
      rw [if_neg hok, ← hx2, if_neg (by omega), if_neg c5, e]
    · refine next (t.1, t.2.1, t.2.2.1, v) ?_
      unfold zwho1
      rw [if_neg hok, ← hx2, if_neg (by omega), if_pos c5, e]
    · refine next (x2, i, j, v) ?_
      unfold zwho1
      rw [if_neg hok, ← hx2, if_pos (by omega), e]
      rfl
  · rw [w32_id (by omega) (by omega)] at e
    subst e
    rw [hA.tl hm] at hz
    refine ih2 (t, j + 1) _ ⟨G, U, rfl, hA, by dsimp only; omega, by dsimp only; omega, ?_⟩ (by dsimp only; omega)
    dsimp only
    rw [hs (by omega)]
    unfold zwho1
    rw [if_pos (Or.inr (fun q => hz (q.imp id lawsv_some.mp)))]
end PUB3
