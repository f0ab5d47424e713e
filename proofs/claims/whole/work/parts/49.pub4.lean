/-! ===== what the class's calls answer, 4 ===== -/
def zform (c : Cv) (k : Int) : Cv := (k - 1, cRim c, cFill c, cSet c, cut 20 (fun _ => 100))
/-- none of the first n WALKS that the bits name spills -/
def zall (c : Cv) (L : Option (List Int)) (ws : Int → Wv) (bits : Int) : Nat → Bool
  | 0 => true
  | n + 1 => zall c L ws bits n && (decide (bAnd (bShr bits n) 1 = 0) || decide (oSum (zOn c L (ws n) 1) = 0))
def S_form (c : Cv) (L : Option (List Int)) (ws : Int → Wv) (bits : Int) : Int × Option (List Int) := (if 1 ≤ bits ∧ bits ≤ 15 then zfirst (fun k => zall (zform c k) L ws bits 4) 19 2 else -1, none)
def zw1 (c : Cv) (L : Option (List Int)) (w : Wv) (x i : Int) : Bool := decide (cHole c i = 100) && decide (oSum (zOn (zHole c i x) L w 1) = 0)
def zw2 (c : Cv) (L : Option (List Int)) (w : Wv) (x i j : Int) : Bool := decide (cHole c i = 100) && decide (cHole c j = 100) && decide (oSum (zOn (zHole (zHole c i x) j x) L w 1) = 0)
def zpair (p : Int → Int → Bool) (N : Int) : Nat → Int → Int × Int
  | 0, _ => (-2, -2)
  | n + 1, i => if zfirst (p i) (N - (i + 1)).toNat (i + 1) = -2 then zpair p N n (i + 1) else (i, zfirst (p i) (N - (i + 1)).toNat (i + 1))
def S_few (c : Cv) (L : Option (List Int)) (ws : Int → Wv) (a x : Int) : Int × Option (List Int) :=
  if (0 ≤ a ∧ a ≤ 3) ∧ (0 ≤ x ∧ x ≤ 99) then
    if oSum (zOn c L (ws a) 1) = 0 then (0, some [])
    else if zfirst (zw1 c L (ws a) x) (cLast c).toNat 0 ≠ -2 then (1, some [zfirst (zw1 c L (ws a) x) (cLast c).toNat 0])
    else if (zpair (zw2 c L (ws a) x) (cLast c) (cLast c).toNat 0).1 ≠ -2 then (2, some [(zpair (zw2 c L (ws a) x) (cLast c) (cLast c).toNat 0).1, (zpair (zw2 c L (ws a) x) (cLast c) (cLast c).toNat 0).2])
    else (-2, none)
  else (-1, none)
/-- in how many of n ways something is SPILT; how often first in STEP s -/
def zways (c : Cv) (L : Option (List Int)) (w : Wv) : Nat → Int
  | 0 => 0
  | n + 1 => if 0 < oSum (zOn c L w (n + 1)) then zways c L w n + 1 else zways c L w n
def zoft (c : Cv) (L : Option (List Int)) (w : Wv) (s : Int) : Nat → Int
  | 0 => 0
  | n + 1 => if 0 < oSum (zOn c L w (n + 1)) ∧ zstepAt w (oFirst (zOn c L w (n + 1))) = s then zoft c L w s n + 1 else zoft c L w s n
def S_odds (c : Cv) (L : Option (List Int)) (ws : Int → Wv) (a n : Int) : Int × Option (List Int) :=
  if (0 ≤ a ∧ a ≤ 3) ∧ (1 ≤ n ∧ n ≤ 20) then (0, some [zup (zways c L (ws a) n.toNat) n, zlow (zways c L (ws a) n.toNat) n, (zmo (fun s => zoft c L (ws a) s n.toNat) 1000).1]) else (-1, none)
theorem zmo_ext {f g : Int → Int} : ∀ {n : Nat}, (∀ k, 0 ≤ k → k < n → f k = g k) → zmo f n = zmo g n
  | 0, _ => rfl
  | n + 1, h => by
    show (if (zmo f n).2 < f n then ((n : Int), f n) else zmo f n) = (if (zmo g n).2 < g n then ((n : Int), g n) else zmo g n)
    rw [zmo_ext (n := n) (fun k k0 k1 => h k k0 (by omega)), h n (by omega) (by omega)]
theorem zfirst_ge {p : Int → Bool} : ∀ {n : Nat} {i : Int}, zfirst p n i = -2 ∨ i ≤ zfirst p n i
  | 0, _ => Or.inl rfl
  | n + 1, i => by
    show (if p i = true then i else zfirst p n (i + 1)) = -2 ∨ i ≤ (if p i = true then i else zfirst p n (i + 1))
    split
    · exact Or.inr (Int.le_refl _)
    · rcases zfirst_ge (p := p) (n := n) (i := i + 1) with h | h
      · exact Or.inl h
      · exact Or.inr (by omega)
theorem zHole_twice {c : Cv} {i x : Int} : zHole (zHole c i x) i x = zHole c i x := by
  show (c.1, c.2.1, c.2.2.1, cSet c, zu (zu (cHole c) i x) i x) = (c.1, c.2.1, c.2.2.1, cSet c, zu (cHole c) i x)
  have : zu (zu (cHole c) i x) i x = zu (cHole c) i x := by
    funext k
    unfold zu
    split <;> rfl
  rw [this]
theorem COK_form {c : Cv} {k : Int} (hc : COK c) (h0 : 2 ≤ k) (h1 : k ≤ 20) : COK (zform c k) := by
  obtain ⟨l0, l1, r0, r1, f0, f1, s0, s1, s2, s3, s4, s5, s6, ho⟩ := hc
  refine ⟨by show 1 ≤ k - 1; omega, by show k - 1 ≤ 19; omega, r0, r1, f0, f1, s0, s1, s2, s3, s4, s5, s6, fun j j0 j1 => ?_⟩
  show 0 ≤ cut 20 (fun _ => 100) j ∧ cut 20 (fun _ => 100) j ≤ 100
  rw [cut_in j0 j1]
  omega
section PUB4
variable {d n1 : Nat} {W : Nat → Nat} {D : DD}
theorem C_helps {a l : Int} (hm : MP D W) : Cl (d + 7) 0 0 mX9_helps [vr 4, vi a, vi l] (D, rho n1 W) (KI (Wh n1 D W (S_helps (cupv D 5) (lawsv D W) (wsv D W) a l))) := by
  refine Cl_of mb_X9_helps (Nat.le_of_ble_eq_true rfl) (sg_X9_helps_0 ⟨rfl, cR (C_toldLaw hm) ?_⟩)
  rintro b m1 ⟨hb, rfl⟩
  refine cB C_isWalk (fun hy => yE ⟨fun c0 => ⟨rfl, cR (C_asItIs hm) ?_⟩, fun c0 => ⟨_, rfl, Wh_no AF.refl ?_ ?_⟩⟩) (fun hy => nE ⟨_, rfl, Wh_no AF.refl ?_ ?_⟩)
  rotate_left
  · unfold S_helps
    rw [if_neg (fun q => lawsv_some.mp q.2 (hb.symm.trans c0))]
  · unfold S_helps
    rw [if_neg (fun q => lawsv_some.mp q.2 (hb.symm.trans c0))]
  · unfold S_helps
    rw [if_neg (fun q => hy q.1)]
  · unfold S_helps
    rw [if_neg (fun q => hy q.1)]
  rintro b8 m0 ⟨rfl, G0, U0, rfl, hT0⟩
  have hok : (0 ≤ a ∧ a ≤ 3) ∧ (lawsv D W l).isSome = true := ⟨hy, lawsv_some.mpr (fun z => c0 (hb.trans z))⟩
  have hT0 : TRl D W G0 (uW U0 9 0) (cupv D 5) 0 := hT0.c.law
  refine ⟨rfl, fun m4 e4 => ?_⟩
  have e4 : m4 = (G0, rho n1 (uW U0 9 0)) := e4.trans sR_30
  subst e4
  obtain ⟨p10, p20, p30, p40⟩ := hT0.preA hm hm.1 (Or.inl rfl) hy.1 hy.2
  rw [wref hT0.1 hy.1 hy.2]
  refine ⟨rfl, rfl, bnd (N := 4) rfl hy.1 (by omega), rfl, cI (C_spiltOn p10) ?_⟩
  rintro x0 m1 ⟨H0, rfl, h0, -, hx0⟩
  rw [p20, p30, p40] at hx0
  have hx0 : x0 = oSum (zOn (cupv D 5) none (wsv D W a) 1) := hx0
  have hT1 := hT0.run h0
  refine Wp.loop (σ := Int × Int × Int × Int) (fun z => [some (vr 4), some (vi a), some (vi l), some (vr b), some (vr 30), some (vi x0), some (vi z.1), some (vi z.2.1), some (vi z.2.2.1), some (vi z.2.2.2), none, none])
    (fun z μ => ∃ (E : DD) (V : Nat → Nat), μ = (E, rho n1 V) ∧ AF D W E V ∧ 0 ≤ z.2.2.2 ∧ z.2.2.2 ≤ 21 ∧ z.1 = zbits (zhelp (cupv D 5) (lawsv D W l) (wsv D W a)) x0 z.2.2.2.toNat ∧ (z.2.2.1, z.2.1) = zmn (zhelp (cupv D 5) (lawsv D W l) (wsv D W a)) (fun k => k) z.2.2.2.toNat)
    (fun z => (21 - z.2.2.2).toNat) ?_ (0, 2147483647, -1, 0) _ ⟨H0, uW U0 9 0, rfl, hT1.1, by decide, by decide, rfl, rfl⟩
  rintro ⟨bits, least, first, k⟩ μ ⟨E, V, rfl, hA, k0, k1, hbits, hv⟩ ih
  dsimp only at k0 k1 hbits hv ih ⊢
  refine sg_X9_helps_59 ⟨fun c => ⟨rfl, cV C_tell3 ?_⟩, fun c => ⟨rfl, cR (C_asItIs (hA.mp hm)) ?_⟩⟩
  · rintro m ⟨E4, rfl, g1, g2, g3⟩
    have ek : k.toNat = 21 := by omega
    rw [ek] at hbits hv
    refine ⟨_, rfl, Wh_tell hA g1 g2 g3 ?_ ?_ rfl⟩ <;> unfold S_helps <;> rw [if_pos hok, ← hx0, ← hbits, ← hv]
  · rintro b9 m1 ⟨rfl, G, U, rfl, hT⟩
    have hT := TRc.back hA hm hT.c
    rw [hA.cup] at hT
    refine ⟨rfl, fun m3 e3 => ?_⟩
    have e3 : m3 = (G, rho n1 (uW U 9 b)) := e3.trans sR_30
    subst e3
    have hT2 : TRl D W G (uW U 9 b) (cupv D 5) b := hT.law
    refine ⟨rfl, rfl, rfl, bnd (N := 7) rfl (by decide) (by decide), fun m4 e4 => ?_⟩
    have e4 : m4 = (wr G 32 5 k, rho n1 (uW U 9 b)) := e4
    subst e4
    have hT3 : TRl D W (wr G 32 5 k) (uW U 9 b) (zSet (cupv D 5) 5 k) b := ⟨⟨hT2.1.1.wr (by unfold aF; omega), hT2.1.2⟩, by rw [cupv_set (by decide) (by decide), hT2.2.1], hT2.2.2⟩
    generalize wr G 32 5 k = H at hT3
    obtain ⟨p1, p2, p3, p4⟩ := hT3.preA hm (COK_set hm.1 (Or.inr (Or.inr (Or.inl ⟨rfl, by omega, by omega⟩)))) (by rw [hb]; exact tlaw_id hm) hy.1 hy.2
    rw [wref hT3.1 hy.1 hy.2]
    refine ⟨rfl, rfl, bnd (N := 4) rfl hy.1 (by omega), cI (C_spiltOn p1) ?_⟩
    rintro x m5 ⟨H2, rfl, h2, -, hx⟩
    rw [p2, p3, p4, hb] at hx
    have hx : x = zhelp (cupv D 5) (lawsv D W l) (wsv D W a) k.toNat := by
      rw [hx]
      unfold zhelp
      rw [show ((k.toNat : Nat) : Int) = k by omega]
      rfl
    have hT4 := hT3.run h2
    have hs := zmn_s (f := zhelp (cupv D 5) (lawsv D W l) (wsv D W a)) (ix := fun k => k) (k := k) k0
    rw [← hv, ← hx] at hs
    dsimp only at hs
    rw [show ((k.toNat : Nat) : Int) = k by omega] at hs
    have hbs : zbits (zhelp (cupv D 5) (lawsv D W l) (wsv D W a)) x0 (k + 1).toNat = if x < x0 then bOr bits (bShl 1 k) else bits := by
      rw [show (k + 1).toNat = k.toNat + 1 by omega]
      show (if zhelp _ _ _ k.toNat < x0 then bOr (zbits _ x0 k.toNat) (bShl 1 ((k.toNat : Nat) : Int)) else zbits _ x0 k.toNat) = _
      rw [← hx, ← hbits, show ((k.toNat : Nat) : Int) = k by omega]
    have next : ∀ bits' : Int, bits' = zbits (zhelp (cupv D 5) (lawsv D W l) (wsv D W a)) x0 (k + 1).toNat → Wp (d + 7) 0 0 mX9_helps 120 [some (vr 4), some (vi a), some (vi l), some (vr b), some (vr 30), some (vi x0), some (vi bits'), some (vi least), some (vi first), some (vi k), some (vr 30), some (vi x)] [] (H2, rho n1 (uW U 9 b)) (KI (Wh n1 D W (S_helps (cupv D 5) (lawsv D W) (wsv D W) a l))) := by
      intro bits' hb'
      refine sg_X9_helps_120 ⟨fun c2 v e => ?_, fun c2 v e => ?_⟩
      · rw [w32_id (by omega) (by omega)] at e
        subst e
        refine ih (bits', least, first, k + 1) _ ⟨H2, _, rfl, hT4.1, by dsimp only; omega, by dsimp only; omega, hb', ?_⟩ (by dsimp only; omega)
        dsimp only
        rw [hs, if_neg (by omega)]
      · rw [w32_id (by omega) (by omega)] at e
        subst e
        refine ih (bits', x, k, k + 1) _ ⟨H2, _, rfl, hT4.1, by dsimp only; omega, by dsimp only; omega, hb', ?_⟩ (by dsimp only; omega)
        dsimp only
        rw [hs, if_pos (by omega)]
    exact ⟨fun c2 => next bits (by rw [hbs, if_neg (by omega)]), fun c2 v e => by rw [e]; exact next _ (by rw [hbs, if_pos (by omega)])⟩
theorem C_off {tilt n k : Int} (hm : MP D W) : Cl (d + 7) 0 0 mX9_off [vr 4, vi tilt, vi n, vi k] (D, rho n1 W) (KI (Wh n1 D W (S_off (cupv D 5) tilt n k))) := by
  have no : ¬ ((1 ≤ tilt ∧ tilt ≤ 500) ∧ (1 ≤ n ∧ n ≤ 400) ∧ (0 ≤ k ∧ k ≤ 9)) → Wh n1 D W (S_off (cupv D 5) tilt n k) (-1) (D, rho n1 W) := fun h => Wh_no AF.refl (by unfold S_off; rw [if_neg h]) (by unfold S_off; rw [if_neg h])
  refine Cl_of mb_X9_off (Nat.le_of_ble_eq_true rfl) (sg_X9_off_0 (cB C_isIn (fun hx => yE (cB C_isIn (fun hy => yE (cB C_isIn (fun hz => yN ⟨rfl, cI (C_lateSlope hm hy.1 hy.2 hz.1 hz.2) ?_⟩) (fun hz => nN ⟨_, rfl, no (fun q => hz q.2.2)⟩))) (fun hy => nE ⟨_, rfl, no (fun q => hy q.2.1)⟩))) (fun hx => nE ⟨_, rfl, no (fun q => hx q.1)⟩)))
  rintro x1 m1 ⟨e1, E, V, rfl, hA⟩
  refine ⟨rfl, cI (C_lateSlope (hA.mp hm) hy.1 hy.2 (by decide) (by decide)) ?_⟩
  rintro x2 m2 ⟨e2, E2, V2, rfl, hA2⟩
  rw [hA.cup] at e2
  have hA3 := hA.trans hA2
  refine ⟨rfl, cV C_tell2 ?_⟩
  rintro m3 ⟨E3, rfl, g1, g2, g3⟩
  have fin : ∀ u : Int, u = (if x2 = 0 then 0 else w32 (x2 - x1)) → ∀ m, (∃ D', m = (D', rho n1 V2) ∧ Fr tlF E3 D' ∧ D' 4 16 = E3 4 16 + 2 ∧ toldv D' = toldv E3 ++ [zup u x2, zlow u x2]) → KI (Wh n1 D W (S_off (cupv D 5) tilt n k)) (some (some (vi 0))) m := by
    rintro u hu m ⟨E4, rfl, k1, k2, k3⟩
    refine ⟨_, rfl, Wh_tell (k := 4) hA3 (g1.trans k1) (by rw [k2, g2]; rfl) (by rw [k3, g3]) ?_ ?_ rfl⟩ <;> unfold S_off <;> rw [if_pos ⟨hx, hy, hz⟩]
    rw [hu, ← e1, ← e2]
    rfl
  refine ⟨fun c => ⟨rfl, cV (C_tellFraction (D := E3) (by rw [g2]; decide) (by rw [g2]; decide)) (fin _ (if_neg c).symm)⟩, fun c => ⟨rfl, cV (C_tellFraction (D := E3) (by rw [g2]; decide) (by rw [g2]; decide)) (fin _ (if_pos c).symm)⟩⟩
theorem C_swing {tilt : Int} (hm : MP D W) : Cl (d + 7) 0 0 mX9_swing [vr 4, vi tilt] (D, rho n1 W) (KI (Wh n1 D W (S_swing (cupv D 5) tilt))) := by
  refine Cl_of mb_X9_swing (Nat.le_of_ble_eq_true rfl) (sg_X9_swing_0 (cB C_isIn (fun hx => yN ⟨rfl, cR (C_asItIs hm) ?_⟩) (fun hx => nN ⟨_, rfl, Wh_no AF.refl ?_ ?_⟩)))
  rotate_left
  · unfold S_swing
    rw [if_neg hx]
  · unfold S_swing
    rw [if_neg hx]
  rintro b m1 ⟨rfl, G, U, rfl, hT⟩
  refine ⟨rfl, cR (C_letGo (D := G) (by rw [hT.2.1]; exact hm.1) (by decide) (by decide)) ?_⟩
  rintro b m2 ⟨rfl, H, rfl, hH, hs⟩
  rw [hT.2.1] at hs
  have hA : AF D W H U := hT.1.trans ⟨hH.mono (fun q j h => by unfold lF at h; unfold aF; omega), fun _ _ => rfl⟩
  refine Wp.loop (σ := Int) (fun k => [some (vr 4), some (vi tilt), some (vr 44), some (vi k)])
    (fun k μ => μ = (H, rho n1 U) ∧ 2 ≤ k ∧ k ≤ 400 ∧ zswing (cupv D 5) tilt = zfirst (fun k => decide (zlg (cupv D 5) tilt (k - 1) < zlg (cupv D 5) tilt k ∧ zlg (cupv D 5) tilt (k + 1) ≤ zlg (cupv D 5) tilt k)) (400 - k).toNat k)
    (fun k => (400 - k).toNat) ?_ 2 (H, rho n1 U) ⟨rfl, by decide, by decide, rfl⟩
  rintro k μ ⟨rfl, k0, k1, hv⟩ ih
  have w1 : w32 (k - 1) = k - 1 := w32_id (by omega) (by omega)
  have w2 : w32 (k + 1) = k + 1 := w32_id (by omega) (by omega)
  have ss : ∀ j, 0 ≤ j → j ≤ 400 → mD (H, rho n1 U) 44 j = zlg (cupv D 5) tilt j := fun j j0 j1 => hs j j0 j1
  have step : k < 400 → zswing (cupv D 5) tilt = if (zlg (cupv D 5) tilt (k - 1) < zlg (cupv D 5) tilt k ∧ zlg (cupv D 5) tilt (k + 1) ≤ zlg (cupv D 5) tilt k) then k else zfirst (fun k => decide (zlg (cupv D 5) tilt (k - 1) < zlg (cupv D 5) tilt k ∧ zlg (cupv D 5) tilt (k + 1) ≤ zlg (cupv D 5) tilt k)) (400 - (k + 1)).toNat (k + 1) := fun h => by
    rw [hv, show (400 - k).toNat = (400 - (k + 1)).toNat + 1 by omega]
    show (if decide _ = true then k else _) = _
    by_cases q : (zlg (cupv D 5) tilt (k - 1) < zlg (cupv D 5) tilt k ∧ zlg (cupv D 5) tilt (k + 1) ≤ zlg (cupv D 5) tilt k)
    · rw [if_pos (decide_eq_true q), if_pos q]
    · rw [if_neg (fun z => q (of_decide_eq_true z)), if_neg q]
  have next : k < 400 → ¬ (zlg (cupv D 5) tilt (k - 1) < zlg (cupv D 5) tilt k ∧ zlg (cupv D 5) tilt (k + 1) ≤ zlg (cupv D 5) tilt k) → ∀ v, v = w32 (k + 1) → Wp (d + 7) 0 0 mX9_swing 27 [some (vr 4), some (vi tilt), some (vr 44), some (vi v)] [] (H, rho n1 U) (KI (Wh n1 D W (S_swing (cupv D 5) tilt))) := by
    rintro h q v rfl
    rw [w2]
    exact ih (k + 1) _ ⟨rfl, by omega, by omega, by rw [step h, if_neg q]⟩ (by omega)
  refine sg_X9_swing_27 ⟨fun c => ⟨_, rfl, Wh_no hA ?_ ?_⟩, fun c => ⟨Or.inl rfl, bnd (N := 401) rfl (by omega) (by show k < 401; omega), ?_⟩⟩
  · have e : zswing (cupv D 5) tilt = -2 := by rw [hv, show (400 - k).toNat = 0 by omega]; rfl
    unfold S_swing
    rw [if_pos hx, if_pos e]
  · have e : zswing (cupv D 5) tilt = -2 := by rw [hv, show (400 - k).toNat = 0 by omega]; rfl
    unfold S_swing
    rw [if_pos hx, if_pos e]
  rw [w1, w2, ss k (by omega) (by omega), ss (k - 1) (by omega) (by omega), ss (k + 1) (by omega) (by omega), ss 0 (by decide) (by decide)]
  refine ⟨bnd (N := 401) rfl (by omega) (by show k - 1 < 401; omega), fun c2 v e => next (by omega) (by omega) v (by rw [w2]; exact e), fun c2 => ⟨bnd (N := 401) rfl (by omega) (by show k < 401; omega), bnd (N := 401) rfl (by omega) (by show k + 1 < 401; omega), fun c3 v e => next (by omega) (by omega) v (by rw [w2]; exact e), fun c3 => ⟨bnd (N := 401) rfl (by decide) (by decide), bnd (N := 401) rfl (by omega) (by show k < 401; omega), rfl, cV C_tell2 ?_⟩⟩⟩
  rintro m ⟨E4, rfl, g1, g2, g3⟩
  have e : zswing (cupv D 5) tilt = k := by rw [step (by omega), if_pos ⟨by omega, by omega⟩]
  refine ⟨_, rfl, Wh_tell hA g1 g2 g3 ?_ ?_ rfl⟩ <;> unfold S_swing <;> rw [if_pos hx, e, if_neg (by omega)]
theorem C_dies {tilt part : Int} (hm : MP D W) : Cl (d + 7) 0 0 mX9_dies [vr 4, vi tilt, vi part] (D, rho n1 W) (KI (Wh n1 D W (S_dies (cupv D 5) tilt part))) := by
  refine Cl_of mb_X9_dies (Nat.le_of_ble_eq_true rfl) (sg_X9_dies_0 (cB C_isIn (fun hx => yE (cB C_isIn (fun hy => yN ⟨rfl, cR (C_asItIs hm) ?_⟩) (fun hy => nN ⟨_, rfl, Wh_no AF.refl (if_neg (fun q => hy q.2)).symm rfl⟩))) (fun hx => nE ⟨_, rfl, Wh_no AF.refl (if_neg (fun q => hx q.1)).symm rfl⟩)))
  rintro b m1 ⟨rfl, G, U, rfl, hT⟩
  refine ⟨rfl, cR (C_letGo (D := G) (by rw [hT.2.1]; exact hm.1) (by decide) (by decide)) ?_⟩
  rintro b m2 ⟨rfl, H, rfl, hH, hs⟩
  rw [hT.2.1] at hs
  have hA : AF D W H U := hT.1.trans ⟨hH.mono (fun q j h => by unfold lF at h; unfold aF; omega), fun _ _ => rfl⟩
  have ss : ∀ j, 0 ≤ j → j ≤ 400 → mD (H, rho n1 U) 44 j = zlg (cupv D 5) tilt j := fun j j0 j1 => hs j j0 j1
  refine ⟨Or.inl rfl, bnd (N := 401) rfl (by decide) (by decide), ?_⟩
  rw [ss 0 (by decide) (by decide)]
  refine cP C_absz (fun v1 e1 => ?_)
  have fin : ∀ k : Int, k = zdies (cupv D 5) tilt part → Wp (d + 7) 0 0 mX9_dies 78 [some (vr 4), some (vi tilt), some (vi part), some (vr 44), some (vi v1), some (vi k)] [] (H, rho n1 U) (KI (Wh n1 D W (S_dies (cupv D 5) tilt part))) := by
    intro k hk
    refine sg_X9_dies_78 ⟨fun c => ⟨_, rfl, Wh_no hA ?_ rfl⟩, fun c => ⟨_, rfl, Wh_no hA ?_ rfl⟩⟩ <;> unfold S_dies <;> rw [if_pos ⟨hx, hy⟩, ← hk]
    · exact (if_pos c).symm
    · exact (if_neg c).symm
  refine Wp.loop (σ := Int) (fun k => [some (vr 4), some (vi tilt), some (vi part), some (vr 44), some (vi v1), some (vi k)])
    (fun k μ => μ = (H, rho n1 U) ∧ 0 ≤ k ∧ k ≤ 401 ∧ zdies (cupv D 5) tilt part = zdie (cupv D 5) tilt v1 k.toNat)
    (fun k => k.toNat) ?_ 401 (H, rho n1 U) ⟨rfl, by decide, by decide, by rw [e1]; rfl⟩
  rintro k μ ⟨rfl, k0, k1, hv⟩ ih
  refine sg_X9_dies_53 ⟨fun c => fin k ?_, fun c => ⟨Or.inl rfl, ?_⟩⟩
  · rw [hv, show k.toNat = 0 by omega, show k = 0 by omega]
    rfl
  rw [w32_id (x := k - 1) (by omega) (by omega), ss (k - 1) (by omega) (by omega)]
  have step : zdies (cupv D 5) tilt part = if zabs (zlg (cupv D 5) tilt (k - 1)) ≤ v1 then zdie (cupv D 5) tilt v1 (k - 1).toNat else k := by
    rw [hv, show k.toNat = (k - 1).toNat + 1 by omega]
    show (if zabs (zlg _ tilt (((k - 1).toNat : Nat) : Int)) ≤ v1 then _ else (((k - 1).toNat : Nat) : Int) + 1) = _
    rw [show (((k - 1).toNat : Nat) : Int) = k - 1 by omega, show k - 1 + 1 = k by omega]
  refine ⟨bnd (N := 401) rfl (by omega) (by show k - 1 < 401; omega), cP C_absz ⟨fun c2 => fin k ?_, fun c2 v e => ?_⟩⟩
  · rw [step, if_neg (by omega)]
  · rw [w32_id (by omega) (by omega)] at e
    subst e
    exact ih (k + -1) _ ⟨rfl, by omega, by omega, by rw [step, if_pos (by omega)]; rfl⟩ (by omega)
end PUB4
