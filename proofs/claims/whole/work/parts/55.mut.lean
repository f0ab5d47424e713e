/-! ===== the class's calls that change something ===== -/
def zlo (a : Int) : Int := if a = 0 then 1 else 0
def zhi (a : Int) : Int := if a = 0 then 16 else if a = 1 then 50 else if a = 2 then 9 else if a = 3 then 20 else if a = 4 then 100 else if a = 5 then 20 else 3
/-- (the tables of the class's settings) -/
def SOKd (D : DD) : Prop := ∀ j, 0 ≤ j → j ≤ 6 → D 2 j = zlo j ∧ D 3 j = zhi j
def okCup (a b c : Int) : Prop := (2 ≤ a ∧ a ≤ 20) ∧ (1 ≤ b ∧ b ≤ 999) ∧ (0 ≤ c ∧ c ≤ b)
def zcup (c : Cv) (a b f : Int) : Cv := (a - 1, b, f, cSet c, cut 20 (fun _ => 100))
def cuF (q : Nat) (j : Int) : Prop := q = 5 ∨ q = 7 ∨ (8 ≤ q ∧ q ≤ 15) ∨ (q = 4 ∧ j = 3)
def zent (k v : Int) : Int := if k = 0 then w8 v else if k = 1 then w16 v else v
def zsh (k n f st g : Int) : Int := if n ≤ g then 100 else btw (zent k (w32 (f + w32 (g * st)))) 0 100
def zshs (k n f st : Int) : Nat → Int
  | 0 => 0
  | i + 1 => w32 (zshs k n f st i + zsh k n f st i)
def zsheetH (c : Cv) (k n f st : Int) : Int → Int := fun g => if 0 ≤ g ∧ g < cLast c then zsh k n f st g else cHole c g
def zsheetA (c : Cv) (k n f st : Int) : Int := if (0 ≤ k ∧ k ≤ 3) ∧ n ≤ cLast c then (if k = 3 then -3 else if 0 ≤ n then zshs k n f st (cLast c).toNat else -2) else -1
def zsheetC (c : Cv) (k n f st : Int) : Cv := if (0 ≤ k ∧ k ≤ 3) ∧ n ≤ cLast c then (if k = 3 then zOpen c else if 0 ≤ n then (c.1, c.2.1, c.2.2.1, cSet c, zsheetH c k n f st) else c) else c
def zTilt (c : Cv) (s : Sv) (r t : Int) : Sv := if r = 0 then (s.1, s.2.1, zleanr c t (sAl s), sAc s, sSeen s) else (s.1, s.2.1, sAl s, zleanr c t (sAc s), sSeen s)
def zgoZ (c : Cv) (L : Option (List Int)) (w : Wv) (s : Sv) (fr n : Int) : Zr := zrun 1040 c L w (fun _ => 0) (min (fr + n) (wTicks w) - fr).toNat fr (zgo0 s)
section MUT
variable {d n1 : Nat} {W : Nat → Nat} {D : DD}
theorem C_rowOf {o : Nat} {r : Int} {ρ : Rho} (hs : SSt ρ o) : Cl d 0 0 mX5_rowOf [vr o, vi r] (D, ρ) (KR (fun x m => x = (if r = 0 then o + 1 else o + 4) ∧ m = (D, ρ))) := by
  refine Cl_of mb_X5_rowOf (Nat.le_of_ble_eq_true rfl) (sg_X5_rowOf_0 ⟨fun c => ⟨hs.1, _, rfl, ?_, rfl⟩, fun c => ⟨hs.1, _, rfl, ?_, rfl⟩⟩)
  · rw [if_neg c]
    exact hs.2.2.1
  · rw [if_pos c]
    exact hs.2.1
theorem C_cup {a b f : Int} : Cl (d + 7) 0 0 mX9_cup [vr 4, vi a, vi b, vi f] (D, rho n1 W) (KI (fun r m => ∃ D', m = (D', rho n1 W) ∧ Fr cuF D D' ∧ ((okCup a b f ∧ r = 1 ∧ cupv D' 5 = zcup (cupv D 5) a b f ∧ stv D' 8 = zfresh (zcup (cupv D 5) a b f) (stv D 8) ∧ D' 4 3 = 0) ∨ (¬ okCup a b f ∧ r = 0 ∧ D' = D)))) := by
  refine Cl_of mb_X9_cup (Nat.le_of_ble_eq_true rfl) (sg_X9_cup_0 (cB C_isIn (fun hx => yE (cB C_isIn (fun hy => yE (cB C_isIn (fun hz => yN ⟨rfl, rfl, fun m4 e4 m5 e5 m6 e6 => ?_⟩) (fun hz => nN ⟨_, rfl, D, rfl, Fr.refl, Or.inr ⟨fun q => hz q.2.2, rfl, rfl⟩⟩))) (fun hy => nE ⟨_, rfl, D, rfl, Fr.refl, Or.inr ⟨fun q => hy q.2.1, rfl, rfl⟩⟩))) (fun hx => nE ⟨_, rfl, D, rfl, Fr.refl, Or.inr ⟨fun q => hx q.1, rfl, rfl⟩⟩)))
  have w1 : w32 (a - 1) = a - 1 := w32_id (by omega) (by omega)
  obtain ⟨E, q0, hE, k0, k1, k2⟩ : ∃ E : DD, m6 = (E, rho n1 W) ∧ Fr (fun q j => q = 5) D E ∧ E 5 0 = a - 1 ∧ E 5 1 = b ∧ E 5 2 = f := by
    refine ⟨wr (wr (wr D 5 0 (a - 1)) 5 1 b) 5 2 f, by rw [e6, e5, e4, w1]; rfl, ((Fr.refl.wr rfl).wr rfl).wr rfl, ?_, ?_, wr_at⟩
    · rw [wr_j (by decide), wr_j (by decide), wr_at]
    · rw [wr_j (by decide), wr_at]
  subst q0
  refine cV (C_openAll (D := E) (c := 5) cup5) ?_
  rintro m7 ⟨G, rfl, f1, f2⟩
  have cG : cupv G 5 = zcup (cupv D 5) a b f := by
    rw [f2]
    unfold zOpen zcup cupv cSet
    rw [k0, k1, k2, hE.obj (o := 5 + 1) (fun j => by omega)]
  refine ⟨rfl, rfl, cV (C_sfresh (D := G) (o := 8) (c := 5) st8 cup5 (by omega)) ?_⟩
  rintro m8 ⟨H, rfl, g1, g2⟩
  refine ⟨rfl, fun m9 e9 => ⟨_, rfl, wr H 4 3 0, e9, ?_, Or.inl ⟨⟨hx, hy, hz⟩, rfl, ?_, ?_, wr_at⟩⟩⟩
  · exact (((hE.mono (fun q j h => by unfold cuF; omega)).trans (f1.mono (fun q j h => by unfold cuF; omega))).trans (g1.mono (fun q j h => by unfold cuF; omega))).wr (by unfold cuF; omega)
  · rw [cupv_fr (Fr.refl.wr (F := fun q _ => q = 4) rfl) (fun q j x y => by omega), cupv_fr g1 (fun q j x y => by omega), cG]
  · rw [stv_fr (Fr.refl.wr (F := fun q _ => q = 4) rfl) (fun q j x y => by omega), g2, cG, stv_fr f1 (fun q j x y => by omega), stv_fr hE (fun q j x y => by omega)]
theorem C_set {a v : Int} (hS : SOKd D) : Cl (d + 7) 0 0 mX9_set [vr 4, vi a, vi v] (D, rho n1 W) (KI (fun r m => ∃ D', m = (D', rho n1 W) ∧ Fr (fun q _ => q = 6) D D' ∧ ((((0 ≤ a ∧ a ≤ 6) ∧ (zlo a ≤ v ∧ v ≤ zhi a)) ∧ r = cSet (cupv D 5) a ∧ cupv D' 5 = zSet (cupv D 5) a v) ∨ (¬ ((0 ≤ a ∧ a ≤ 6) ∧ (zlo a ≤ v ∧ v ≤ zhi a)) ∧ r = -1 ∧ D' = D)))) := by
  refine Cl_of mb_X9_set (Nat.le_of_ble_eq_true rfl) (sg_X9_set_0 (cB C_isIn (fun hx => yE ⟨Or.inr ⟨by decide, rfl⟩, bnd (N := 7) rfl hx.1 (by omega), Or.inr ⟨by decide, rfl⟩, bnd (N := 7) rfl hx.1 (by omega), ?_⟩) (fun hx => nE ⟨_, rfl, D, rfl, Fr.refl, Or.inr ⟨fun q => hx q.1, rfl, rfl⟩⟩)))
  rw [show mD (D, rho n1 W) 2 a = zlo a from (hS a hx.1 hx.2).1, show mD (D, rho n1 W) 3 a = zhi a from (hS a hx.1 hx.2).2]
  refine cB C_isIn (fun hy => yN ⟨rfl, rfl, Or.inl rfl, bnd (N := 7) rfl hx.1 (by omega), fun v1 e1 => ⟨rfl, bnd (N := 7) rfl hx.1 (by omega), fun m3 e3 => ⟨_, rfl, wr D 6 a v, e3, Fr.refl.wr rfl, Or.inl ⟨⟨hx, hy⟩, ?_, ?_⟩⟩⟩⟩) (fun hy => nN ⟨_, rfl, D, rfl, Fr.refl, Or.inr ⟨fun q => hy q.2, rfl, rfl⟩⟩)
  · rw [e1]
    exact (cut_in hx.1 (by omega)).symm
  · exact cupv_set (c := 5) hx.1 (by omega)
theorem C_wall {g v : Int} (l0 : 1 ≤ D 5 0) (l1 : D 5 0 ≤ 19) : Cl (d + 7) 0 0 mX9_wall [vr 4, vi g, vi v] (D, rho n1 W) (KI (fun r m => ∃ D', m = (D', rho n1 W) ∧ Fr (fun q _ => q = 7) D D' ∧ ((((0 ≤ g ∧ g ≤ cLast (cupv D 5) - 1) ∧ (0 ≤ v ∧ v ≤ 100)) ∧ r = cHole (cupv D 5) g ∧ cupv D' 5 = zHole (cupv D 5) g v) ∨ (¬ ((0 ≤ g ∧ g ≤ cLast (cupv D 5) - 1) ∧ (0 ≤ v ∧ v ≤ 100)) ∧ r = -1 ∧ D' = D)))) := by
  refine Cl_of mb_X9_wall (Nat.le_of_ble_eq_true rfl) (sg_X9_wall_0 ⟨rfl, cB (C_isGap l0 l1) (fun hx => yE (cB C_isIn (fun hy => yN ⟨rfl, rfl, Or.inl rfl, bnd (N := 20) rfl hx.1 (by omega), fun v1 e1 => ⟨rfl, bnd (N := 20) rfl hx.1 (by omega), fun m3 e3 => ⟨_, rfl, wr D 7 g v, e3, Fr.refl.wr rfl, Or.inl ⟨⟨hx, hy⟩, ?_, ?_⟩⟩⟩⟩) (fun hy => nN ⟨_, rfl, D, rfl, Fr.refl, Or.inr ⟨fun q => hy q.2, rfl, rfl⟩⟩))) (fun hx => nE ⟨_, rfl, D, rfl, Fr.refl, Or.inr ⟨fun q => hx q.1, rfl, rfl⟩⟩)⟩)
  · rw [e1]
    exact (cut_in hx.1 (by omega)).symm
  · exact cupv_hole (c := 5) hx.1 (by omega)
theorem C_sheet {k n f st : Int} (l0 : 1 ≤ D 5 0) (l1 : D 5 0 ≤ 19) : Cl (d + 7) 0 0 mX9_sheet [vr 4, vi k, vi n, vi f, vi st] (D, rho n1 W) (KI (fun r m => ∃ D', m = (D', rho n1 W) ∧ Fr (fun q _ => q = 7) D D' ∧ r = zsheetA (cupv D 5) k n f st ∧ cupv D' 5 = zsheetC (cupv D 5) k n f st)) := by
  refine Cl_of mb_X9_sheet (Nat.le_of_ble_eq_true rfl) (sg_X9_sheet_0 (cB C_isIn (fun hx => yE ⟨rfl, rfl, fun c1 => ⟨fun c2 => ⟨fun c3 => ?_, fun c3 => ⟨_, rfl, D, rfl, Fr.refl, ?_, ?_⟩⟩, fun c2 => cV (C_openAll (D := D) (c := 5) cup5) ?_⟩, fun c1 => ⟨_, rfl, D, rfl, Fr.refl, ?_, ?_⟩⟩) (fun hx => nE ⟨_, rfl, D, rfl, Fr.refl, ?_, ?_⟩)))
  · have c1 : n ≤ D 5 0 := c1
    have hok : (0 ≤ k ∧ k ≤ 3) ∧ n ≤ cLast (cupv D 5) := ⟨hx, c1⟩
    refine Wp.loop (σ := Int × Int) (fun z => [some (vr 4), some (vi k), some (vi n), some (vi f), some (vi st), some (vi z.1), some (vi z.2)])
      (fun z μ => ∃ E : DD, μ = (E, rho n1 W) ∧ Fr (fun q _ => q = 7) D E ∧ 0 ≤ z.2 ∧ z.2 ≤ D 5 0 ∧ z.1 = zshs k n f st z.2.toNat ∧ ∀ g, E 7 g = if 0 ≤ g ∧ g < z.2 then zsh k n f st g else D 7 g)
      (fun z => (D 5 0 - z.2).toNat) ?_ (0, 0) _ ⟨D, rfl, Fr.refl, Int.le_refl _, by dsimp only; omega, rfl, fun g => (if_neg (by dsimp only; omega)).symm⟩
    rintro ⟨s, i⟩ μ ⟨E, rfl, hF, i0, i1, hs, hh⟩ ih
    dsimp only at i0 i1 hs hh ih ⊢
    have e5 : E 5 0 = D 5 0 := hF 5 0 (by omega)
    have next : ∀ (G : DD) (x : Int), i < D 5 0 → G = wr E 7 i x → x = zsh k n f st i → ∀ v1, v1 = w32 (s + G 7 i) → ∀ v2, v2 = w32 (i + 1) → Wp (d + 7) 0 0 mX9_sheet 50 [some (vr 4), some (vi k), some (vi n), some (vi f), some (vi st), some (vi v1), some (vi v2)] [] (G, rho n1 W) (KI (fun r m => ∃ D', m = (D', rho n1 W) ∧ Fr (fun q _ => q = 7) D D' ∧ r = zsheetA (cupv D 5) k n f st ∧ cupv D' 5 = zsheetC (cupv D 5) k n f st)) := by
      rintro G x hi rfl hx2 v1 rfl v2 rfl
      rw [w32_id (x := i + 1) (by omega) (by omega), wr_at]
      refine ih (w32 (s + x), i + 1) _ ⟨_, rfl, hF.wr rfl, by dsimp only; omega, by dsimp only; omega, ?_, fun g => ?_⟩ (by dsimp only; omega)
      · dsimp only
        rw [show (i + 1).toNat = i.toNat + 1 by omega]
        show _ = w32 (zshs k n f st i.toNat + zsh k n f st ((i.toNat : Nat) : Int))
        rw [← hs, show ((i.toNat : Nat) : Int) = i by omega, hx2]
      · dsimp only
        by_cases q : g = i
        · rw [q, wr_at, if_pos (by omega), hx2]
        · rw [wr_j q, hh g]
          by_cases q2 : 0 ≤ g ∧ g < i
          · rw [if_pos q2, if_pos (by omega)]
          · rw [if_neg q2, if_neg (by omega)]
    refine sg_X9_sheet_50 ⟨rfl, rfl, fun c => ⟨_, rfl, E, rfl, hF, ?_, ?_⟩, fun c => ⟨fun c4 => ⟨rfl, bnd (N := 20) rfl i0 ?_, fun m1 e1 => ?_⟩, fun c4 => cP C_sheetEntry (cP C_between ⟨rfl, bnd (N := 20) rfl i0 ?_, fun m1 e1 => ?_⟩)⟩⟩
    · change E 5 0 ≤ i at c
      unfold zsheetA
      rw [if_pos hok, if_neg c2, if_pos c3, hs, show i = D 5 0 by omega]
      rfl
    · change E 5 0 ≤ i at c
      unfold zsheetC
      rw [if_pos hok, if_neg c2, if_pos c3]
      unfold cupv zsheetH cSet cHole cLast
      rw [hF.obj (o := 5) (fun j => by omega), hF.obj (o := 5 + 1) (fun j => by omega)]
      refine congrArg (fun q => (D 5 0, D 5 1, D 5 2, cut 7 (D (5 + 1)), q)) ?_
      funext g
      show (if 0 ≤ g ∧ g < 20 then E 7 g else 0) = if 0 ≤ g ∧ g < D 5 0 then zsh k n f st g else cut 20 (D 7) g
      rw [hh g, show i = D 5 0 by omega]
      by_cases q : 0 ≤ g ∧ g < D 5 0
      · rw [if_pos q, if_pos q, if_pos (by omega)]
      · rw [if_neg q, if_neg q]
        rfl
    · change ¬ E 5 0 ≤ i at c
      show i < 20
      omega
    · change ¬ E 5 0 ≤ i at c
      have e1 : m1 = (wr E 7 i 100, rho n1 W) := e1
      subst e1
      refine ⟨Or.inl rfl, bnd (N := 20) rfl i0 (by show i < 20; omega), fun v1 ev1 v2 ev2 => next _ 100 (by omega) rfl ?_ v1 ev1 v2 ev2⟩
      unfold zsh
      rw [if_pos c4]
    · change ¬ E 5 0 ≤ i at c
      show i < 20
      omega
    · change ¬ E 5 0 ≤ i at c
      have e1 : m1 = (wr E 7 i (btw (zent k (w32 (f + w32 (i * st)))) 0 100), rho n1 W) := e1
      subst e1
      refine ⟨rfl, rfl, Or.inl rfl, bnd (N := 20) rfl i0 (by show i < 20; omega), fun v1 ev1 v2 ev2 => next _ _ (by omega) rfl ?_ v1 ev1 v2 ev2⟩
      unfold zsh
      rw [if_neg c4]
  · unfold zsheetA
    rw [if_pos ⟨hx, c1⟩, if_neg c2, if_neg c3]
  · unfold zsheetC
    rw [if_pos ⟨hx, c1⟩, if_neg c2, if_neg c3]
  · rintro m2 ⟨G, rfl, f1, f2⟩
    refine ⟨_, rfl, G, rfl, f1, ?_, ?_⟩
    · unfold zsheetA
      rw [if_pos ⟨hx, c1⟩, if_pos c2]
    · unfold zsheetC
      rw [if_pos ⟨hx, c1⟩, if_pos c2, f2]
  · unfold zsheetA
    rw [if_neg (fun q => c1 q.2)]
  · unfold zsheetC
    rw [if_neg (fun q => c1 q.2)]
  · unfold zsheetA
    rw [if_neg (fun q => hx q.1)]
  · unfold zsheetC
    rw [if_neg (fun q => hx q.1)]
def s8F (q : Nat) (_ : Int) : Prop := 8 ≤ q ∧ q ≤ 15
theorem C_fresh : Cl (d + 7) 0 0 mX9_fresh [vr 4] (D, rho n1 W) (KI (fun r m => ∃ D', m = (D', rho n1 W) ∧ Fr s8F D D' ∧ r = sTick (stv D 8) ∧ stv D' 8 = zfresh (cupv D 5) (stv D 8))) := by
  refine Cl_of mb_X9_fresh (Nat.le_of_ble_eq_true rfl) (sg_X9_fresh_0 ⟨rfl, rfl, fun v1 e1 => cV (C_sfresh (D := D) (o := 8) (c := 5) st8 cup5 (by omega)) ?_⟩)
  rintro m ⟨G, rfl, f1, f2⟩
  exact ⟨_, rfl, G, rfl, f1.mono (fun q j h => ⟨by omega, by omega⟩), e1, f2⟩
theorem C_tilt {r t : Int} (l0 : 1 ≤ D 5 0) (l1 : D 5 0 ≤ 19) : Cl (d + 7) 0 0 mX9_tilt [vr 4, vi r, vi t] (D, rho n1 W) (KI (fun x m => ∃ D', m = (D', rho n1 W) ∧ Fr s8F D D' ∧ x = bi ((0 ≤ r ∧ r ≤ 1) ∧ (-500 ≤ t ∧ t ≤ 500)) ∧ stv D' 8 = if (0 ≤ r ∧ r ≤ 1) ∧ (-500 ≤ t ∧ t ≤ 500) then zTilt (cupv D 5) (stv D 8) r t else stv D 8)) := by
  refine Cl_of mb_X9_tilt (Nat.le_of_ble_eq_true rfl) (sg_X9_tilt_0 (cB C_isRow (fun hx => yE (cB C_isIn (fun hy => yN ⟨rfl, rfl, cR (C_rowOf (D := D) (o := 8) st8) ?_⟩) (fun hy => nN ⟨_, rfl, D, rfl, Fr.refl, (bi_0 (fun q => hy q.2)).symm, (if_neg (fun q => hy q.2)).symm⟩))) (fun hx => nE ⟨_, rfl, D, rfl, Fr.refl, (bi_0 (fun q => hx q.1)).symm, (if_neg (fun q => hx q.1)).symm⟩)))
  rintro x m3 ⟨hxx, rfl⟩
  have hr : SRow (rho n1 W) x := by
    rw [hxx]
    split
    · exact st8.2.2.2.2.1
    · exact st8.2.2.2.2.2.1
  have hx9 : x = 9 ∨ x = 12 := by rw [hxx]; split <;> omega
  refine ⟨rfl, hr.1, cV (C_lean (D := D) (a := x) (c := 5) hr cup5 l0 l1 (by omega)) ?_⟩
  rintro m ⟨G, rfl, f1, f2⟩
  refine ⟨_, rfl, G, rfl, f1.mono (fun q j h => ⟨by omega, by omega⟩), (bi_1 ⟨hx, hy⟩).symm, ?_⟩
  rw [if_pos ⟨hx, hy⟩]
  by_cases c : r = 0
  · rw [if_pos c] at hxx
    subst hxx
    unfold zTilt
    rw [if_pos c]
    unfold stv sAl sAc sSeen
    rw [f2, rowv_fr f1 (a := 8 + 4) (fun q j a b => by omega), f1.obj (o := 8) (fun j => by omega), f1.obj (o := 8 + 7) (fun j => by omega)]
  · rw [if_neg c] at hxx
    subst hxx
    unfold zTilt
    rw [if_neg c]
    unfold stv sAl sAc sSeen
    rw [f2, rowv_fr f1 (a := 8 + 1) (fun q j a b => by omega), f1.obj (o := 8) (fun j => by omega), f1.obj (o := 8 + 7) (fun j => by omega)]
theorem C_tick {a b : Int} (l0 : 1 ≤ D 5 0) (l1 : D 5 0 ≤ 19) (ht : 0 ≤ D 8 0) : Cl (d + 7) 0 0 mX9_tick [vr 4, vi a, vi b] (D, rho n1 W) (KI (fun x m => ∃ D', m = (D', rho n1 W) ∧ Fr s8F D D' ∧ (((-500 ≤ a ∧ a ≤ 500) ∧ (-500 ≤ b ∧ b ≤ 500)) ∧ (x, stv D' 8) = ztick (cupv D 5) a b (stv D 8) ∨ ¬ ((-500 ≤ a ∧ a ≤ 500) ∧ (-500 ≤ b ∧ b ≤ 500)) ∧ x = -1 ∧ D' = D))) := by
  refine Cl_of mb_X9_tick (Nat.le_of_ble_eq_true rfl) (sg_X9_tick_0 (cB C_isPush (fun hx => yE (cB C_isPush (fun hy => yN ⟨rfl, rfl, cI (C_spass (D := D) (o := 8) (c := 5) st8 cup5 l0 l1 (by omega) ht) ?_⟩) (fun hy => nN ⟨_, rfl, D, rfl, Fr.refl, Or.inr ⟨fun q => hy q.2, rfl, rfl⟩⟩))) (fun hx => nE ⟨_, rfl, D, rfl, Fr.refl, Or.inr ⟨fun q => hx q.1, rfl, rfl⟩⟩)))
  rintro x m ⟨G, rfl, f1, f2⟩
  exact ⟨_, rfl, G, rfl, f1.mono (fun q j h => ⟨by omega, by omega⟩), Or.inl ⟨⟨hx, hy⟩, f2⟩⟩
theorem C_go {a fr n : Int} (hm : MP D W) (hk : SOK (stv D 8)) (ht : D 8 0 ≤ 1000000) : Cl (d + 7) 0 0 mX9_go [vr 4, vi a, vi fr, vi n] (D, rho n1 W) (KI (fun x m => ∃ D', m = (D', rho n1 W) ∧ Fr (fun q j => s8F q j ∨ aF q j) D D' ∧ (((0 ≤ a ∧ a ≤ 3) ∧ (0 ≤ fr ∧ fr ≤ 1000) ∧ (0 ≤ n ∧ n ≤ 1000)) ∧ x = zSum (zgoZ (cupv D 5) (hcode D W) (wsv D W a) (stv D 8) fr n) ∧ stv D' 8 = zS (zgoZ (cupv D 5) (hcode D W) (wsv D W a) (stv D 8) fr n) ∨ ¬ ((0 ≤ a ∧ a ≤ 3) ∧ (0 ≤ fr ∧ fr ≤ 1000) ∧ (0 ≤ n ∧ n ≤ 1000)) ∧ x = -1 ∧ D' = D))) := by
  refine Cl_of mb_X9_go (Nat.le_of_ble_eq_true rfl) (sg_X9_go_0 (cB C_isWalk (fun hx => yE (cB C_isIn (fun hy => yE (cB C_isIn (fun hz => yN ⟨rfl, rfl, bnd (N := 4) rfl hx.1 (by omega), rfl, Or.inl rfl, bnd (N := 7) rfl (by decide) (by decide), cR (C_toldLaw hm) ?_⟩) (fun hz => nN ⟨_, rfl, D, rfl, Fr.refl, Or.inr ⟨fun q => hz q.2.2, rfl, rfl⟩⟩))) (fun hy => nE ⟨_, rfl, D, rfl, Fr.refl, Or.inr ⟨fun q => hy q.2.1, rfl, rfl⟩⟩))) (fun hx => nE ⟨_, rfl, D, rfl, Fr.refl, Or.inr ⟨fun q => hx q.1, rfl, rfl⟩⟩)))
  rintro l m1 ⟨hl, rfl⟩
  have hl : l = tlaw D W (cSet (cupv D 5) 6) := by
    rw [hl]
    show tlaw D W (D 6 6) = tlaw D W (cut 7 (D (5 + 1)) 6)
    rw [cut_in (by decide) (by decide)]
  have hcd : lawO D l = hcode D W := by rw [hl]; rfl
  have lid : l = 0 ∨ lawId l := by rw [hl]; exact tlaw_id hm
  have hwa := hm.2.1 a.toNat (by omega)
  obtain ⟨wt0, wt1⟩ := hm.2.2.2 a.toNat (by omega)
  have hcl : 1 ≤ D 5 0 ∧ D 5 0 ≤ 19 := ⟨hm.1.1, hm.1.2.1⟩
  have hlate : 0 ≤ D 6 5 ∧ D 6 5 ≤ 20 := by
    have s5 := hm.1.late
    have e : cSet (cupv D 5) 5 = D 6 5 := cut_in (n := 7) (f := D 6) (k := 5) (by decide) (by decide)
    rw [e] at s5
    exact s5
  rw [wref AF.refl hx.1 hx.2]
  refine ⟨(sWk_of (n1 := n1) (W := W) hwa).1, cP C_min ?_⟩
  rw [w32_id (x := fr + n) (by omega) (by omega)]
  generalize eE : min (fr + n) (mD (D, rho n1 W) (W a.toNat) 4) = en
  have eE' : min (fr + n) (wTicks (wsv D W a)) = en := eE
  have eE : min (fr + n) (D (W a.toNat) 4) = en := eE
  unfold zgoZ
  rw [eE']
  have hz0 : ZOK (zgo0 (stv D 8)) := ⟨hk, Int.le_refl 0⟩
  refine Wp.loop (σ := Int × Int) (fun z => [some (vr 4), some (vi a), some (vi fr), some (vi n), some (vr (W a.toNat)), some (vr l), some (vi en), some (vi z.1), some (vi z.2)])
    (fun z μ => ∃ E : DD, μ = (E, rho n1 W) ∧ Fr (fun q j => s8F q j ∨ aF q j) D E ∧ fr ≤ z.2 ∧ (z.2 ≤ en ∨ z.2 = fr) ∧ z.1 = zSum (zrun 1040 (cupv D 5) (hcode D W) (wsv D W a) (fun _ => 0) (z.2 - fr).toNat fr (zgo0 (stv D 8))) ∧ stv E 8 = zS (zrun 1040 (cupv D 5) (hcode D W) (wsv D W a) (fun _ => 0) (z.2 - fr).toNat fr (zgo0 (stv D 8))))
    (fun z => (en - z.2).toNat) ?_ (0, fr) _ ⟨D, rfl, Fr.refl, Int.le_refl _, Or.inr rfl, by dsimp only; rw [show (fr - fr).toNat = 0 by omega]; rfl, by dsimp only; rw [show (fr - fr).toNat = 0 by omega]; rfl⟩
  rintro ⟨s, i⟩ μ ⟨E, rfl, hF, i0, i1, hs, hv⟩ ih
  dsimp only at i0 i1 hs hv ih ⊢
  have cE : cupv E 5 = cupv D 5 := cupv_fr hF (fun q j x y => by unfold s8F aF; omega)
  have lE : lawO E l = lawO D l := by
    rcases lid with e | e
    · unfold lawO
      rw [if_pos e, if_pos e]
    · exact lawO_fr hF (fun j => by unfold s8F aF; unfold lawId at e; omega)
  have wE : wkv E (W a.toNat) = wsv D W a := wkv_fr hF (fun q j x y => by unfold s8F aF; unfold walkId at hwa; omega)
  have w4 : E (W a.toNat) 4 = D (W a.toNat) 4 := hF _ _ (by unfold s8F aF; unfold walkId at hwa; omega)
  have q5 : E 5 0 = D 5 0 := hF 5 0 (by unfold s8F aF; omega)
  have q6 : E 6 5 = D 6 5 := hF 6 5 (by unfold s8F aF; omega)
  refine sg_X9_go_74 ⟨fun c => ⟨_, rfl, E, rfl, hF, Or.inl ⟨⟨hx, hy, hz⟩, ?_, ?_⟩⟩, fun c => ⟨rfl, rfl, ?_⟩⟩
  · rw [hs]
    rcases i1 with q | q
    · rw [show i = en by omega]
    · rw [show (i - fr).toNat = 0 by omega, show (en - fr).toNat = 0 by omega]
  · rw [hv]
    rcases i1 with q | q
    · rw [show i = en by omega]
    · rw [show (i - fr).toNat = 0 by omega, show (en - fr).toNat = 0 by omega]
  obtain ⟨a0, a1, a2, a3⟩ := zrun_phys (cap := 1040) (c := cupv D 5) (L := hcode D W) (w := wsv D W a) (t := fun _ => 0) hm.1 (n := (i - fr).toNat) (i := fr) hz0 (by show (0 : Int) + _ < _; omega) (by show D 8 0 + _ < _; omega)
  have t9 : 0 ≤ E 8 0 := by
    have : E 8 0 = sTick (zS (zrun 1040 (cupv D 5) (hcode D W) (wsv D W a) (fun _ => 0) (i - fr).toNat fr (zgo0 (stv D 8)))) := congrArg Prod.fst hv
    rw [this]
    exact a0.1.2.2
  refine cI (C_carry (D := E) (o := 8) (c := 5) (l := l) (w := W a.toNat) st8 cup5 (lid.imp id sLaw_of) (sWk_of hwa) (by rw [q5]; exact hcl.1) (by rw [q5]; exact hcl.2) t9 (by rw [q6]; exact hlate.1) (by rw [q6]; exact hlate.2)
    (by omega) (by rw [w4]; omega) (by rw [w4]; exact wt1) (by omega) (by unfold walkId at hwa; omega) (lid.imp id (fun h => by unfold lawId at h; unfold walkId at hwa; omega))) ?_
  rintro x m2 ⟨H, rfl, h2, c2⟩ v1 e1 v2 e2
  rw [cE, lE, hcd, wE, hv] at c2
  rw [w32_id (x := i + 1) (by omega) (by omega)] at e2
  subst e1 e2
  have hzs : zrun 1040 (cupv D 5) (hcode D W) (wsv D W a) (fun _ => 0) (i + 1 - fr).toNat fr (zgo0 (stv D 8)) = znote 1040 (cupv D 5) (x, stv H 8) (zrun 1040 (cupv D 5) (hcode D W) (wsv D W a) (fun _ => 0) (i - fr).toNat fr (zgo0 (stv D 8))) := by
    rw [show (i + 1 - fr).toNat = (i - fr).toNat + 1 by omega, zrun_l, show fr + ((i - fr).toNat : Int) = i by omega, c2]
  refine ih (_, i + 1) _ ⟨H, rfl, hF.trans (h2.mono (fun q j h => ?_)), by dsimp only; omega, Or.inl (by dsimp only; omega), ?_, ?_⟩ (by dsimp only; omega)
  · rcases h with h | h
    · exact Or.inl ⟨by omega, by omega⟩
    · rcases lid with z | z
      · exact absurd z h.1
      · unfold lawId at z
        exact Or.inr (by unfold aF; omega)
  · dsimp only
    rw [hzs, hs]
    rfl
  · dsimp only
    rw [hzs]
    rfl
end MUT
