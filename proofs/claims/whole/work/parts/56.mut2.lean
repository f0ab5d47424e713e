/-! ===== the class's calls that change something, 2; calls that only answer ===== -/
def zspot (sp : List Int) (t : Int) : List Int := if (0 ≤ t ∧ t ≤ 1000) ∧ sp.length < 12 then sp ++ [t] else sp
abbrev Fm : Type := Int × Int × Int × Int
def filmsv (D : DD) : List Fm := (List.range (D 93 4).toNat).map (fun k : Nat => (D 94 (k : Int), D 95 (k : Int), D 96 (k : Int), D 97 (k : Int)))
def okFilm (p s t g : Int) : Prop := (-500 ≤ p ∧ p ≤ 500) ∧ (-999 ≤ s ∧ s ≤ 999) ∧ (0 ≤ t ∧ t ≤ 1000) ∧ (-500 ≤ g ∧ g ≤ 500)
def zoff (c : Cv) (cd : List Int) (f : Fm) : Int := zabs (w32 (zlaw cd f.1 f.2.1 f.2.2.1 (cSet c 2) (cFill c) - f.2.2.2))
/-- fitting, sum, worst, how far that is off -/
def zfit1 (c : Cv) (cd : List Int) (within : Int) (i : Int) (f : Fm) (s : Int × Int × Int × Int) : Int × Int × Int × Int :=
  (w32 (s.1 + (if zoff c cd f ≤ within then 1 else 0)), w32 (s.2.1 + zoff c cd f), if s.2.2.2 < zoff c cd f then (i, zoff c cd f) else s.2.2)
def zfits (c : Cv) (cd : List Int) (within : Int) (fs : Nat → Fm) : Nat → Int × Int × Int × Int
  | 0 => (0, 0, -1, -1)
  | n + 1 => zfit1 c cd within n (fs n) (zfits c cd within fs n)
def fmAt (l : List Fm) (k : Nat) : Fm := l.getD k (0, 0, 0, 0)
def S_fits (c : Cv) (lw : Int → Option (List Int)) (fl : List Fm) (l within : Int) : Int × Option (List Int) :=
  match lw l with
  | none => (-1, none)
  | some cd => if 0 ≤ within ∧ within ≤ 99 then ((zfits c cd within (fmAt fl) fl.length).1, some [(zfits c cd within (fmAt fl) fl.length).2.1, (zfits c cd within (fmAt fl) fl.length).2.2.1]) else (-1, none)
def ztenth (a b : Int) (f : Fm) : Int := zabs (w32 (btw (w32 ((w32 ((w32 (f.1 * a)).tdiv 10)) - (w32 ((w32 (f.2.1 * b)).tdiv 10)))) (-500) 500 - f.2.2.2))
def ztens (a b : Int) (fs : Nat → Fm) : Nat → Int
  | 0 => 0
  | n + 1 => w32 (ztens a b fs n + ztenth a b (fs n))
/-- least, a, b -/
def zread1 (f : Int → Int → Int) (a b : Int) (s : Int × Int × Int) : Int × Int × Int := if f a b < s.1 then (f a b, a, b) else s
def zread (f : Int → Int → Int) : Nat → Int × Int × Int
  | 0 => (2147483647, -1, -1)
  | n + 1 => zread1 f (n / 21 : Nat) (n % 21 : Nat) (zread f n)
def S_reads (fl : List Fm) : Int × Option (List Int) :=
  if fl.length = 0 then (-1, none) else (0, some [(zread (fun a b => ztens a b (fmAt fl) fl.length) 441).2.1, (zread (fun a b => ztens a b (fmAt fl) fl.length) 441).2.2, (zread (fun a b => ztens a b (fmAt fl) fl.length) 441).1])
def S_steps (ws : Int → Wv) (a : Int) : Int × Option (List Int) := if 0 ≤ a ∧ a ≤ 3 then (wSteps (ws a), some [wTicks (ws a), zsz (wAl (ws a)) (wTicks (ws a)).toNat, zsz (wAc (ws a)) (wTicks (ws a)).toNat]) else (-1, none)
def zstir (c : Cv) (r : Rv) : Nat → Int
  | 0 => 0
  | k + 1 => w64 (zstir c r k + w64 (w64 (w32 (r.1 k - cFill c) * w32 (r.1 k - cFill c)) + (if cLast c ≤ k then w64 (0 * 0) else w64 (w32 ((r.2.1 k).tdiv 8) * w32 ((r.2.1 k).tdiv 8)))))
section MUT2
variable {d n1 : Nat} {W : Nat → Nat} {D : DD}
theorem filmsv_len : (filmsv D).length = (D 93 4).toNat := by unfold filmsv; rw [List.length_map, List.length_range]
theorem filmsv_at {k : Nat} (h : (k : Int) < D 93 4) : fmAt (filmsv D) k = (D 94 k, D 95 k, D 96 k, D 97 k) := by
  unfold fmAt filmsv
  rw [List.getD_eq_getElem?_getD, List.getElem?_map, List.getElem?_range (by omega)]
  rfl
theorem C_leads {a m : Int} : Cl (d + 7) 0 0 mX9_leads [vr 4, vi a, vi m] (D, rho n1 W) (KI (fun r m' => ∃ D', m' = (D', rho n1 W) ∧ Fr (fun q _ => q = 20) D D' ∧ (((0 ≤ a ∧ a ≤ 3) ∧ (0 ≤ m ∧ m ≤ 99)) ∧ r = D 20 a ∧ D' 20 = zu (D 20) a m ∨ ¬ ((0 ≤ a ∧ a ≤ 3) ∧ (0 ≤ m ∧ m ≤ 99)) ∧ r = -1 ∧ D' = D))) := by
  refine Cl_of mb_X9_leads (Nat.le_of_ble_eq_true rfl) (sg_X9_leads_0 (cB C_isWalk (fun hx => yE (cB C_isIn (fun hy => yN ⟨rfl, Or.inl rfl, bnd (N := 4) rfl hx.1 (by omega), fun v1 e1 => ⟨rfl, bnd (N := 4) rfl hx.1 (by omega), fun m3 e3 => ⟨_, rfl, wr D 20 a m, e3, Fr.refl.wr rfl, Or.inl ⟨⟨hx, hy⟩, e1, wr_A⟩⟩⟩⟩) (fun hy => nN ⟨_, rfl, D, rfl, Fr.refl, Or.inr ⟨fun q => hy q.2, rfl, rfl⟩⟩))) (fun hx => nE ⟨_, rfl, D, rfl, Fr.refl, Or.inr ⟨fun q => hx q.1, rfl, rfl⟩⟩)))
theorem C_spot {t : Int} (h0 : 0 ≤ D 4 13) (h1 : D 4 13 ≤ 12) : Cl (d + 7) 0 0 mX9_spot [vr 4, vi t] (D, rho n1 W) (KI (fun r m => ∃ D', m = (D', rho n1 W) ∧ Fr (fun q j => q = 92 ∨ (q = 4 ∧ j = 13)) D D' ∧ (((0 ≤ t ∧ t ≤ 1000) ∧ D 4 13 < 12) ∧ r = D 4 13 + 1 ∧ spotsv D' = spotsv D ++ [t] ∧ D' 4 13 = D 4 13 + 1 ∨ ¬ ((0 ≤ t ∧ t ≤ 1000) ∧ D 4 13 < 12) ∧ r = -1 ∧ D' = D))) := by
  refine Cl_of mb_X9_spot (Nat.le_of_ble_eq_true rfl) (sg_X9_spot_0 (cB C_isIn (fun hx => yE ⟨rfl, fun c => ⟨rfl, bnd (N := 12) rfl h0 c, fun m2 e2 m3 e3 => ?_⟩, fun c => ⟨_, rfl, D, rfl, Fr.refl, Or.inr ⟨fun q => c q.2, rfl, rfl⟩⟩⟩) (fun hx => nE ⟨_, rfl, D, rfl, Fr.refl, Or.inr ⟨fun q => hx q.1, rfl, rfl⟩⟩)))
  have em : m3 = (wr (wr D 92 (D 4 13) t) 4 13 (w32 (D 4 13 + 1)), rho n1 W) := by rw [e3, e2]; rfl
  subst em
  have w1 : w32 (D 4 13 + 1) = D 4 13 + 1 := w32_id (by omega) (by omega)
  refine ⟨_, rfl, _, rfl, (Fr.refl.wr (Or.inl rfl)).wr (Or.inr ⟨rfl, rfl⟩), Or.inl ⟨⟨hx, c⟩, ?_, ?_, ?_⟩⟩
  · show wr (wr D 92 (D 4 13) t) 4 13 (w32 (D 4 13 + 1)) 4 13 = _
    rw [wr_at, w1]
  · unfold spotsv
    rw [wr_at, w1, wr_o (by decide), wr_A, lst_push h0]
  · rw [wr_at, w1]
theorem C_wipe : Cl (d + 7) 0 0 mX9_wipe [vr 4] (D, rho n1 W) (KI (fun r m => ∃ D', m = (D', rho n1 W) ∧ Fr (fun q j => q = 4 ∧ j = 13) D D' ∧ r = D 4 13 ∧ spotsv D' = [] ∧ D' 4 13 = 0)) :=
  Cl_of mb_X9_wipe (Nat.le_of_ble_eq_true rfl) (sg_X9_wipe_0 ⟨rfl, fun v1 e1 m1 e2 => ⟨_, rfl, wr D 4 13 0, e2, Fr.refl.wr ⟨rfl, rfl⟩, e1, by unfold spotsv; rw [wr_at, lst_0 (by decide)], wr_at⟩⟩)
theorem C_add {p s t g : Int} (h0 : 0 ≤ D 93 4) (h1 : D 93 4 ≤ 20) : Cl d 0 0 mX1_add [vr 93, vi p, vi s, vi t, vi g] (D, rho n1 W) (KI (fun r m => ∃ D', m = (D', rho n1 W) ∧ Fr (fun q _ => 93 ≤ q ∧ q ≤ 97) D D' ∧ (D 93 4 < 20 ∧ r = 1 ∧ filmsv D' = filmsv D ++ [(p, s, t, g)] ∧ D' 93 4 = D 93 4 + 1 ∨ ¬ D 93 4 < 20 ∧ r = 0 ∧ D' = D))) := by
  refine Cl_of mb_X1_add (Nat.le_of_ble_eq_true rfl) (sg_X1_add_0 ⟨rfl, fun c => ⟨rfl, bnd (N := 20) rfl h0 c, fun m1 e1 => ?_⟩, fun c => ⟨_, rfl, D, rfl, Fr.refl, Or.inr ⟨c, rfl, rfl⟩⟩⟩)
  have c : D 93 4 < 20 := c
  have e1 : m1 = (wr D 94 (D 93 4) p, rho n1 W) := e1
  subst e1
  refine ⟨rfl, bnd (N := 20) rfl h0 c, fun m2 e2 => ?_⟩
  have e2 : m2 = (wr (wr D 94 (D 93 4) p) 95 (D 93 4) s, rho n1 W) := e2
  subst e2
  refine ⟨rfl, bnd (N := 20) rfl h0 c, fun m3 e3 => ?_⟩
  have e3 : m3 = (wr (wr (wr D 94 (D 93 4) p) 95 (D 93 4) s) 96 (D 93 4) t, rho n1 W) := e3
  subst e3
  refine ⟨rfl, bnd (N := 20) rfl h0 c, fun m4 e4 m5 e5 => ?_⟩
  have w1 : w32 (D 93 4 + 1) = D 93 4 + 1 := w32_id (by omega) (by omega)
  refine ⟨_, rfl, wr (wr (wr (wr (wr D 94 (D 93 4) p) 95 (D 93 4) s) 96 (D 93 4) t) 97 (D 93 4) g) 93 4 (D 93 4 + 1), ?_, ?_, Or.inl ⟨c, rfl, ?_, wr_at⟩⟩
  · rw [e5, e4, ← w1]
    rfl
  · exact ((((Fr.refl.wr ⟨by decide, by decide⟩).wr ⟨by decide, by decide⟩).wr ⟨by decide, by decide⟩).wr ⟨by decide, by decide⟩).wr ⟨by decide, by decide⟩
  · unfold filmsv
    rw [wr_at, show (D 93 4 + 1).toNat = (D 93 4).toNat + 1 by omega, List.range_succ, List.map_append]
    have a1 : ∀ k : Int, wr (wr (wr (wr (wr D 94 (D 93 4) p) 95 (D 93 4) s) 96 (D 93 4) t) 97 (D 93 4) g) 93 4 (D 93 4 + 1) 94 k = if k = D 93 4 then p else D 94 k := fun k => by
      rw [wr_o (by decide), wr_o (by decide), wr_o (by decide), wr_o (by decide), wr_A]
      rfl
    have a2 : ∀ k : Int, wr (wr (wr (wr (wr D 94 (D 93 4) p) 95 (D 93 4) s) 96 (D 93 4) t) 97 (D 93 4) g) 93 4 (D 93 4 + 1) 95 k = if k = D 93 4 then s else D 95 k := fun k => by
      rw [wr_o (by decide), wr_o (by decide), wr_o (by decide), wr_A, wr_o (by decide)]
      rfl
    have a3 : ∀ k : Int, wr (wr (wr (wr (wr D 94 (D 93 4) p) 95 (D 93 4) s) 96 (D 93 4) t) 97 (D 93 4) g) 93 4 (D 93 4 + 1) 96 k = if k = D 93 4 then t else D 96 k := fun k => by
      rw [wr_o (by decide), wr_o (by decide), wr_A, wr_o (by decide), wr_o (by decide)]
      rfl
    have a4 : ∀ k : Int, wr (wr (wr (wr (wr D 94 (D 93 4) p) 95 (D 93 4) s) 96 (D 93 4) t) 97 (D 93 4) g) 93 4 (D 93 4 + 1) 97 k = if k = D 93 4 then g else D 97 k := fun k => by
      rw [wr_o (by decide), wr_A, wr_o (by decide), wr_o (by decide), wr_o (by decide)]
      rfl
    congr 1
    · refine List.map_congr_left (fun k hk => ?_)
      have := List.mem_range.mp hk
      rw [a1, a2, a3, a4, if_neg (by omega), if_neg (by omega), if_neg (by omega), if_neg (by omega)]
    · show [_] = _
      dsimp only
      rw [a1, a2, a3, a4, if_pos (by omega), if_pos (by omega), if_pos (by omega), if_pos (by omega)]
theorem C_film {p s t g : Int} (h0 : 0 ≤ D 93 4) (h1 : D 93 4 ≤ 20) : Cl (d + 7) 0 0 mX9_film [vr 4, vi p, vi s, vi t, vi g] (D, rho n1 W) (KI (fun r m => ∃ D', m = (D', rho n1 W) ∧ Fr (fun q _ => 93 ≤ q ∧ q ≤ 97) D D' ∧ ((okFilm p s t g ∧ D 93 4 < 20) ∧ r = D 93 4 + 1 ∧ filmsv D' = filmsv D ++ [(p, s, t, g)] ∧ D' 93 4 = D 93 4 + 1 ∨ ¬ (okFilm p s t g ∧ D 93 4 < 20) ∧ r = -1 ∧ D' = D))) := by
  refine Cl_of mb_X9_film (Nat.le_of_ble_eq_true rfl) (sg_X9_film_0 (cB C_isPush (fun hx => yE (cB C_isIn (fun hy => yE (cB C_isIn (fun hz => yE (cB C_isPush (fun hw => yN ⟨rfl, rfl, cI (C_add h0 h1) ?_⟩) (fun hw => nN ⟨_, rfl, D, rfl, Fr.refl, Or.inr ⟨fun q => hw q.1.2.2.2, rfl, rfl⟩⟩))) (fun hz => nE ⟨_, rfl, D, rfl, Fr.refl, Or.inr ⟨fun q => hz q.1.2.2.1, rfl, rfl⟩⟩))) (fun hy => nE ⟨_, rfl, D, rfl, Fr.refl, Or.inr ⟨fun q => hy q.1.2.1, rfl, rfl⟩⟩))) (fun hx => nE ⟨_, rfl, D, rfl, Fr.refl, Or.inr ⟨fun q => hx q.1.1, rfl, rfl⟩⟩)))
  rintro x m ⟨G, rfl, f1, ⟨f2, rfl, f3, f4⟩ | ⟨f2, rfl, rfl⟩⟩
  · exact yE ⟨rfl, rfl, _, rfl, G, rfl, f1, Or.inl ⟨⟨⟨hx, hy, hz, hw⟩, f2⟩, f4, f3, f4⟩⟩
  · exact nE ⟨_, rfl, G, rfl, f1, Or.inr ⟨fun q => f2 q.2, rfl, rfl⟩⟩
theorem C_seed {v : Int} : Cl (d + 7) 0 0 mX9_seed [vr 4, vi v] (D, rho n1 W) (KI (fun r m => ∃ D', m = (D', rho n1 W) ∧ Fr s8F D D' ∧ r = sDrawn (stv D 8) ∧ stv D' 8 = (sTick (stv D 8), v, (stv D 8).2.2))) := by
  refine Cl_of mb_X9_seed (Nat.le_of_ble_eq_true rfl) (sg_X9_seed_0 ⟨rfl, rfl, fun v1 e1 m1 e2 => ⟨_, rfl, wr D 8 1 v, e2, Fr.refl.wr ⟨by decide, by decide⟩, e1, ?_⟩⟩)
  have hK : Fr (fun q j => q = 8 ∧ j = 1) D (wr D 8 1 v) := Fr.refl.wr ⟨rfl, rfl⟩
  unfold stv
  rw [rowv_fr hK (fun q j a b => by omega), rowv_fr hK (fun q j a b => by omega), hK.obj (o := 8 + 7) (fun j => by omega), wr_at, wr_j (by decide)]
  rfl
def kbit (b i : Int) : Prop := bAnd (bShr b i) 1 ≠ 0
def krF (i : Int) (q : Nat) (j : Int) : Prop := (99 + 8 * i ≤ q ∧ q ≤ 106 + 8 * i) ∨ (q = 4 ∧ j = 3)
theorem RF_16 {W : Nat → Nat} {j : Int} (h0 : 0 ≤ j) (h1 : j < 3) : RF W 16 j = 99 + 8 * j.toNat := by
  have e : RF W 16 j = (if 0 ≤ j ∧ j < 3 then 99 + 8 * j.toNat else 0) := rfl
  rw [e, if_pos ⟨h0, h1⟩]
theorem C_keep {i : Int} : Cl (d + 7) 0 0 mX9_keep [vr 4, vi i] (D, rho n1 W) (KI (fun r m => ∃ D', m = (D', rho n1 W) ∧ Fr (krF i) D D' ∧ ((0 ≤ i ∧ i ≤ 2) ∧ r = 1 ∧ stv D' (99 + 8 * i.toNat) = stv D 8 ∧ D' 4 3 = bOr (D 4 3) (bShl 1 i) ∨ ¬ (0 ≤ i ∧ i ≤ 2) ∧ r = 0 ∧ D' = D))) := by
  refine Cl_of mb_X9_keep (Nat.le_of_ble_eq_true rfl) (sg_X9_keep_0 (cB C_isIn (fun hx => yN ⟨rfl, rfl, bnd (N := 3) rfl hx.1 (by omega), ?_⟩) (fun hx => nN ⟨_, rfl, D, rfl, Fr.refl, Or.inr ⟨hx, rfl, rfl⟩⟩)))
  have er : ∀ E : DD, mR (E, rho n1 W) (mR (E, rho n1 W) 4 2) i = 99 + 8 * i.toNat := fun E => RF_16 (W := W) hx.1 (by omega)
  rw [er]
  have so := sSt_of (n1 := n1) (W := W) (o := 99 + 8 * i.toNat) (by unfold stId; omega)
  refine ⟨so.1, cV (C_scopy (D := D) (ρ := rho n1 W) (o := 99 + 8 * i.toNat) (p := 8) rfl so st8 (by omega)) ?_⟩
  rintro m ⟨G, rfl, f1, f2⟩
  refine ⟨rfl, fun m3 e3 => ⟨_, rfl, wr G 4 3 (bOr (G 4 3) (bShl 1 i)), e3, (f1.mono (fun q j h => Or.inl ⟨by omega, by omega⟩)).wr (Or.inr ⟨rfl, rfl⟩), Or.inl ⟨hx, rfl, ?_, ?_⟩⟩⟩
  · rw [stv_fr (Fr.refl.wr (F := fun q _ => q = 4) rfl) (fun q j a b => by omega), f2]
  · rw [wr_at, f1 4 3 (by omega)]
theorem C_again {i : Int} : Cl (d + 7) 0 0 mX9_again [vr 4, vi i] (D, rho n1 W) (KI (fun r m => ∃ D', m = (D', rho n1 W) ∧ Fr s8F D D' ∧ (((0 ≤ i ∧ i ≤ 2) ∧ kbit (D 4 3) i) ∧ r = 1 ∧ stv D' 8 = stv D (99 + 8 * i.toNat) ∨ ¬ ((0 ≤ i ∧ i ≤ 2) ∧ kbit (D 4 3) i) ∧ r = 0 ∧ D' = D))) := by
  refine Cl_of mb_X9_again (Nat.le_of_ble_eq_true rfl) (sg_X9_again_0 (cB C_isIn (fun hx => yE ⟨rfl, fun c => ⟨rfl, bnd (N := 3) rfl hx.1 (by omega), rfl, ?_⟩, fun c => ⟨_, rfl, D, rfl, Fr.refl, Or.inr ⟨fun q => q.2 c, rfl, rfl⟩⟩⟩) (fun hx => nE ⟨_, rfl, D, rfl, Fr.refl, Or.inr ⟨fun q => hx q.1, rfl, rfl⟩⟩)))
  have er : ∀ E : DD, mR (E, rho n1 W) (mR (E, rho n1 W) 4 2) i = 99 + 8 * i.toNat := fun E => RF_16 (W := W) hx.1 (by omega)
  rw [er]
  have so := sSt_of (n1 := n1) (W := W) (o := 99 + 8 * i.toNat) (by unfold stId; omega)
  refine cV (C_scopy (D := D) (ρ := rho n1 W) (o := 8) (p := 99 + 8 * i.toNat) rfl st8 so (by omega)) ?_
  rintro m ⟨G, rfl, f1, f2⟩
  exact ⟨_, rfl, G, rfl, f1.mono (fun q j h => ⟨by omega, by omega⟩), Or.inl ⟨⟨hx, c⟩, rfl, f2⟩⟩
theorem C_steps {a : Int} (hm : MP D W) : Cl (d + 7) 0 0 mX9_steps [vr 4, vi a] (D, rho n1 W) (KI (Wh n1 D W (S_steps (wsv D W) a))) := by
  refine Cl_of mb_X9_steps (Nat.le_of_ble_eq_true rfl) (sg_X9_steps_0 (cB C_isWalk (fun hy => yN ⟨rfl, rfl, bnd (N := 4) rfl hy.1 (by omega), ?_⟩) (fun hy => nN ⟨_, rfl, Wh_no AF.refl ?_ ?_⟩)))
  rotate_left
  · unfold S_steps
    rw [if_neg hy]
  · unfold S_steps
    rw [if_neg hy]
  have hwa := hm.2.1 a.toNat (by omega)
  obtain ⟨wt0, wt1⟩ := hm.2.2.2 a.toNat (by omega)
  have sw := sWk_of (n1 := n1) (W := W) hwa
  rw [wref AF.refl hy.1 hy.2]
  have e0 : mR (D, rho n1 W) (W a.toNat) 0 = W a.toNat + 1 := sw.2.1.1
  have e1 : mR (D, rho n1 W) (W a.toNat) 1 = W a.toNat + 2 := sw.2.1.2.1
  rw [e0]
  refine ⟨sw.1, cP (C_sizes (D := D) (ρ := rho n1 W) sw sw.2.2.1.1 sw.2.2.2.1 wt0 wt1) ?_⟩
  rw [e1]
  refine ⟨sw.1, cP (C_sizes (D := D) (ρ := rho n1 W) sw sw.2.2.1.2.1 sw.2.2.2.2.1 wt0 wt1) ⟨rfl, cV C_tell3 ?_⟩⟩
  rintro m ⟨E4, rfl, g1, g2, g3⟩
  have e5 : mD (E4, rho n1 W) (W a.toNat) 5 = wSteps (wsv D W a) := g1 _ _ (by unfold tlF; unfold walkId at hwa; omega)
  refine ⟨sw.1, _, rfl, Wh_tell AF.refl g1 g2 g3 ?_ ?_ rfl⟩ <;> unfold S_steps <;> rw [if_pos hy]
  · exact e5
  · rfl
end MUT2
