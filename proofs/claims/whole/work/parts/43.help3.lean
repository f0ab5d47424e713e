/-! ===== the class's small methods, 3: distances, sums, the spare WALK ===== -/
def znear (t : Int) (ts : List Int) : Int := ts.foldl (fun m x => min m (zabs (w32 (t - x)))) 1000
def zdist (sp ts : List Int) : Int := ts.foldl (fun s x => w32 (s + znear x sp)) (sp.foldl (fun s x => w32 (s + znear x ts)) 0)
theorem zabs_comm {a b : Int} : zabs (w32 (a - b)) = zabs (w32 (b - a)) := by
  unfold zabs w32
  split <;> split <;> omega
def spotsv (D : DD) : List Int := lst (D 92) (D 4 13)
def zgr (c : Cv) (tilt i0 : Int) : Nat → Int
  | 0 => 0
  | k + 1 => max (zgr c tilt i0 k) (zabs (zlg c tilt (i0 + k)))
def zlate (c : Cv) (tilt n foam : Int) : Int := zgr (zSet c 2 foam) tilt (max 1 (w32 (n.tdiv 2))) (n + 1 - max 1 (w32 (n.tdiv 2))).toNat
def zsz (f : Int → Int) : Nat → Int
  | 0 => 0
  | k + 1 => w32 (zsz f k + zabs (f k))
def zstepAt (w : Wv) (i : Int) : Int := if 0 ≤ i ∧ i ≤ wTicks w - 1 then wSt w i else -1
def wPut (v : Wv) (al ac wa st : Int) : Wv := (wTicks v + 1, wSteps v, zu (wAl v) (wTicks v) al, zu (wAc v) (wTicks v) ac, zu (wWan v) (wTicks v) wa, zu (wSt v) (wTicks v) st)
theorem cut_push {t x : Int} {f : Int → Int} (h : 0 ≤ t) : cut (t + 1) (zu f t x) = zu (cut t f) t x := by
  funext k
  show (if 0 ≤ k ∧ k < t + 1 then (if k = t then x else f k) else 0) = (if k = t then x else if 0 ≤ k ∧ k < t then f k else 0)
  by_cases e : k = t
  · rw [if_pos e, if_pos e, if_pos (by omega)]
  · rw [if_neg e, if_neg e]
    by_cases e2 : 0 ≤ k ∧ k < t
    · rw [if_pos e2, if_pos (by omega)]
    · rw [if_neg e2, if_neg (by omega)]
section H3
variable {d n1 : Nat} {W : Nat → Nat} {D : DD}
theorem C_nearest {t n : Int} {a N : Nat} (hk : mK (D, rho n1 W) a = 20) (hN : mN (D, rho n1 W) a = N) (n1' : n ≤ N) : Cl (d + 1) 0 0 mX9_nearest [vi t, vr a, vi n] (D, rho n1 W) (KI (fun r m => r = znear t (lst (D a) n) ∧ m = (D, rho n1 W))) := by
  refine Cl_of mb_X9_nearest (by show 3 ≤ 5; decide) (Wp.rngN fun hb => sg_X9_nearest_0 ?_)
  have hb := hb a
  rw [hN] at hb
  refine Wp.loop (σ := Int × Int) (fun z => [some (vi t), some (vr a), some (vi n), some (vi z.1), some (vi z.2)])
    (fun z ν => ν = (D, rho n1 W) ∧ 0 ≤ z.2 ∧ (z.2 ≤ n ∨ z.2 = 0) ∧ z.1 = znear t (lst (D a) z.2))
    (fun z => (n - z.2).toNat) ?_ (1000, 0) (D, rho n1 W) ⟨rfl, Int.le_refl 0, Or.inr rfl, by dsimp only; rw [lst_0 (by decide)]; rfl⟩
  rintro ⟨m, i⟩ ν ⟨rfl, i0, i1, hv⟩ ih
  dsimp only at i0 i1 hv ih ⊢
  refine sg_X9_nearest_7 ⟨fun c => ⟨_, rfl, ?_, rfl⟩, fun c => ⟨ka hk, ?_⟩⟩
  · rw [hv]
    rcases i1 with q | q
    · rw [show i = n by omega]
    · rw [lst_0 (n := i) (by omega), lst_0 (n := n) (by omega)]
  · rw [hN]
    refine ⟨fun c2 => by omega, fun c2 => ⟨Or.inl hk, ⟨i0, by omega⟩, cP C_absz (cP C_min fun v e => ?_)⟩⟩
    rw [w32_id (by omega) (by omega)] at e
    subst e
    refine ih (_, i + 1) (D, rho n1 W) ⟨rfl, by dsimp only; omega, Or.inl (by dsimp only; omega), ?_⟩ (by dsimp only; omega)
    dsimp only
    rw [lst_s i0]
    unfold znear at hv ⊢
    rw [List.foldl_append, ← hv]
    rfl
theorem C_distance (h13 : D 4 13 ≤ 12) (h9 : D 30 9 ≤ 1040) : Cl (d + 2) 0 0 mX9_distance [vr 4, vr 30] (D, rho n1 W) (KI (fun r m => r = zdist (spotsv D) (lst (D 42) (D 30 9)) ∧ m = (D, rho n1 W))) := by
  refine Cl_of mb_X9_distance (by show 2 ≤ 4; decide) (sg_X9_distance_0 ?_)
  have hb : ∀ a : Int, Wp (d + 2) 0 0 mX9_distance 40 [some (vr 4), some (vr 30), some (vi a), some (vi 0)] [] (D, rho n1 W) (KI (fun r m => r = (lst (D 42) (D 30 9)).foldl (fun s x => w32 (s + znear x (spotsv D))) a ∧ m = (D, rho n1 W))) := by
    intro a
    refine Wp.loop (σ := Int × Int) (fun z => [some (vr 4), some (vr 30), some (vi z.1), some (vi z.2)])
      (fun z ν => ν = (D, rho n1 W) ∧ 0 ≤ z.2 ∧ (z.2 ≤ D 30 9 ∨ z.2 = 0) ∧ z.1 = (lst (D 42) z.2).foldl (fun s x => w32 (s + znear x (spotsv D))) a)
      (fun z => (D 30 9 - z.2).toNat) ?_ (a, 0) (D, rho n1 W) ⟨rfl, Int.le_refl 0, Or.inr rfl, by dsimp only; rw [lst_0 (by decide)]; rfl⟩
    rintro ⟨s, i⟩ ν ⟨rfl, i0, i1, hv⟩ ih
    dsimp only at i0 i1 hv ih ⊢
    refine sg_X9_distance_40 ⟨rfl, fun c => ⟨_, rfl, ?_, rfl⟩, fun c => ⟨Or.inl rfl, bnd (N := 1040) rfl i0 ?_, rfl, cP (C_nearest (N := 12) rfl rfl (by show D 4 13 ≤ 12; omega)) fun v1 e1 v2 e2 => ?_⟩⟩
    · change D 30 9 ≤ i at c
      rw [hv]
      rcases i1 with q | q
      · rw [show i = D 30 9 by omega]
      · rw [lst_0 (n := i) (by omega), lst_0 (n := D 30 9) (by omega)]
    · change ¬ D 30 9 ≤ i at c
      show i < 1040
      omega
    · change ¬ D 30 9 ≤ i at c
      rw [w32_id (by omega) (by omega)] at e2
      subst e1 e2
      refine ih (_, i + 1) (D, rho n1 W) ⟨rfl, by dsimp only; omega, Or.inl (by dsimp only; omega), ?_⟩ (by dsimp only; omega)
      dsimp only
      rw [lst_s i0, List.foldl_append, ← hv]
      rfl
  refine Wp.loop (σ := Int × Int) (fun z => [some (vr 4), some (vr 30), some (vi z.1), some (vi z.2)])
    (fun z ν => ν = (D, rho n1 W) ∧ 0 ≤ z.2 ∧ (z.2 ≤ D 4 13 ∨ z.2 = 0) ∧ z.1 = (lst (D 92) z.2).foldl (fun s x => w32 (s + znear x (lst (D 42) (D 30 9)))) 0)
    (fun z => (D 4 13 - z.2).toNat) ?_ (0, 0) (D, rho n1 W) ⟨rfl, by decide, Or.inr rfl, by dsimp only; rw [lst_0 (n := 0) (by decide)]; rfl⟩
  rintro ⟨s, i⟩ ν ⟨rfl, i0, i1, hv⟩ ih
  dsimp only at i0 i1 hv ih ⊢
  refine sg_X9_distance_4 ⟨rfl, fun c => ?_, fun c => ⟨Or.inl rfl, bnd (N := 12) rfl i0 ?_, rfl, cP (C_nearest (N := 1040) rfl rfl h9) fun v1 e1 v2 e2 => ?_⟩⟩
  · change D 4 13 ≤ i at c
    have : s = (spotsv D).foldl (fun s x => w32 (s + znear x (lst (D 42) (D 30 9)))) 0 := by
      rw [hv]
      unfold spotsv
      rcases i1 with q | q
      · rw [show i = D 4 13 by omega]
      · rw [lst_0 (n := i) (by omega), lst_0 (n := D 4 13) (by omega)]
    rw [this]
    exact hb _
  · change ¬ D 4 13 ≤ i at c
    show i < 12
    omega
  · change ¬ D 4 13 ≤ i at c
    rw [w32_id (by omega) (by omega)] at e2
    subst e1 e2
    refine ih (_, i + 1) (D, rho n1 W) ⟨rfl, by dsimp only; omega, Or.inl (by dsimp only; omega), ?_⟩ (by dsimp only; omega)
    dsimp only
    rw [lst_s i0, List.foldl_append, ← hv]
    rfl
theorem COK_set {c : Cv} {k v : Int} (hc : COK c) (hk : k = 2 ∧ 0 ≤ v ∧ v ≤ 9 ∨ k = 4 ∧ 0 ≤ v ∧ v ≤ 100 ∨ k = 5 ∧ 0 ≤ v ∧ v ≤ 20 ∨ k = 6 ∧ 0 ≤ v ∧ v ≤ 3) : COK (zSet c k v) := by
  obtain ⟨l0, l1, r0, r1, f0, f1, s0, s1, s2, s3, s4, s5, s6, ho⟩ := hc
  have g : ∀ j, cSet (zSet c k v) j = if j = k then v else cSet c j := fun j => rfl
  refine ⟨l0, l1, r0, r1, f0, f1, ?_, ?_, ?_, ?_, ?_, ?_, ?_, ho⟩ <;> rw [g] <;> split <;> omega
theorem C_lateSlope {tilt n f : Int} (hm : MP D W) (n0 : 1 ≤ n) (n400 : n ≤ 400) (f0 : 0 ≤ f) (f9 : f ≤ 9) : Cl (d + 5) 0 0 mX9_lateSlope [vr 4, vi tilt, vi n, vi f] (D, rho n1 W) (KI (fun r m => r = zlate (cupv D 5) tilt n f ∧ ∃ (D' : DD) (W' : Nat → Nat), m = (D', rho n1 W') ∧ AF D W D' W')) := by
  refine Cl_of mb_X9_lateSlope (by show 4 ≤ 8; decide) (sg_X9_lateSlope_0 ⟨rfl, cR (C_asItIs hm) ?_⟩)
  rintro b m1 ⟨rfl, E, V, rfl, hT⟩
  refine ⟨rfl, rfl, rfl, bnd (N := 7) rfl (by decide) (by decide), fun m2 e2 => ?_⟩
  have hT2 : TRc D W (wr E 32 2 f) V (zSet (cupv D 5) 2 f) := TRc.wr (c := cupv D 5) hT (by decide) (by decide) (by rw [cupv_set (by decide) (by decide), hT.2.1])
  have e2 : m2 = (wr E 32 2 f, rho n1 V) := e2
  subst e2
  generalize wr E 32 2 f = G at hT2
  refine cR (C_letGo (D := G) (by rw [hT2.2.1]; exact COK_set hm.1 (Or.inl ⟨rfl, f0, f9⟩)) (by omega) n400) ?_
  rintro b m3 ⟨rfl, H, rfl, hH, hs⟩
  rw [hT2.2.1] at hs
  have hA : AF D W H V := hT2.1.trans ⟨hH.mono (fun q j h => by unfold lF at h; unfold aF; omega), fun _ _ => rfl⟩
  refine cP C_max ?_
  unfold zlate
  generalize ei : max 1 (w32 (n.tdiv 2)) = i0
  have hi0 : 1 ≤ i0 := by omega
  have hi1 : i0 ≤ n := by
    rw [Int.tdiv_eq_ediv_of_nonneg (by omega), w32_id (by omega) (by omega)] at ei
    omega
  refine Wp.loop (σ := Int × Int) (fun z => [some (vr 4), some (vi tilt), some (vi n), some (vi f), some (vr 30), some (vr 44), some (vi z.1), some (vi z.2)])
    (fun z ν => ν = (H, rho n1 V) ∧ i0 ≤ z.2 ∧ z.2 ≤ n + 1 ∧ z.1 = zgr (zSet (cupv D 5) 2 f) tilt i0 (z.2 - i0).toNat)
    (fun z => (n + 1 - z.2).toNat) ?_ (0, i0) (H, rho n1 V) ⟨rfl, Int.le_refl _, by dsimp only; omega, by dsimp only; rw [show (i0 - i0).toNat = 0 by omega]; rfl⟩
  rintro ⟨g, i⟩ ν ⟨rfl, j0, j1, hv⟩ ih
  dsimp only at j0 j1 hv ih ⊢
  refine sg_X9_lateSlope_38 ⟨fun c => ⟨_, rfl, ?_, H, V, rfl, hA⟩, fun c => ⟨ka rfl, fun c2 => ?_, fun c2 => ⟨Or.inl rfl, bnd (N := 401) rfl (by omega) (by show i < 401; omega), cP C_absz (cP C_max fun v e => ?_)⟩⟩⟩
  · rw [hv, show i = n + 1 by omega]
  · have c2 : ((401 : Nat) : Int) ≤ i := c2
    omega
  · rw [w32_id (by omega) (by omega)] at e
    subst e
    refine ih (_, i + 1) (H, rho n1 V) ⟨rfl, by dsimp only; omega, by dsimp only; omega, ?_⟩ (by dsimp only; omega)
    dsimp only
    rw [show (i + 1 - i0).toNat = (i - i0).toNat + 1 by omega, hv]
    show max _ (zabs (H 44 i)) = max _ (zabs (zlg _ tilt (i0 + ((i - i0).toNat : Int))))
    rw [hs i (by omega) (by omega), show i0 + ((i - i0).toNat : Int) = i by omega]
theorem C_sheetEntry {k v : Int} {μ : Mem} : Cl d 0 0 mX9_sheetEntry [vi k, vi v] μ (KI (fun r m => r = (if k = 0 then w8 v else if k = 1 then w16 v else v) ∧ m = μ)) := by
  refine Cl_of mb_X9_sheetEntry (by show 2 ≤ 2; decide) (sg_X9_sheetEntry_0 ⟨fun c => ⟨fun c2 => ⟨_, rfl, ?_, rfl⟩, fun c2 => ⟨_, rfl, ?_, rfl⟩⟩, fun c => ⟨_, rfl, ?_, rfl⟩⟩)
  · rw [if_neg c, if_neg c2]
  · rw [if_neg c, if_pos c2]
  · rw [if_pos c]
def zOpen (c : Cv) : Cv := (c.1, c.2.1, c.2.2.1, cSet c, cut 20 (fun _ => 100))
theorem C_openAll {c : Nat} {ρ : Rho} (hc : SCup ρ c) : Cl (d + 1) 0 0 mX0_openAll [vr c] (D, ρ) (KV (fun m => ∃ D', m = (D', ρ) ∧ Fr (fun q _ => q = c + 2) D D' ∧ cupv D' c = zOpen (cupv D c))) := by
  obtain ⟨f1, f2, f3, f4⟩ := hc.f
  refine Cl_of mb_X0_openAll (by show 1 ≤ 1; decide) (sg_X0_openAll_0 ⟨hc.1, cV (C_fillP (ρ := ρ) (D := D) f2) ?_⟩)
  rintro m1 ⟨D', rfl, h1, v1⟩
  rw [show mR (D, ρ) c 4 = c + 2 from hc.2.2.1] at h1 v1
  refine ⟨rfl, D', rfl, h1, ?_⟩
  unfold cupv zOpen cSet
  rw [h1.obj (o := c + 1) (fun j => by omega), h1.obj (o := c) (fun j => by omega), v1 20 (by rw [hc.2.2.2.2.2.2]; decide)]
def zwc (c : Cv) : Nat → Int
  | 0 => 0
  | k + 1 => w32 (zwc c k + (if cHole c k < 100 then 1 else 0))
theorem C_wallCount {c : Nat} {ρ : Rho} (hc : SCup ρ c) (l1 : D c 0 ≤ 19) (l0 : 0 ≤ D c 0) : Cl d 0 0 mX0_wallCount [vr c] (D, ρ) (KI (fun r m => r = zwc (cupv D c) (D c 0).toNat ∧ m = (D, ρ))) := by
  obtain ⟨f1, f2, f3, f4⟩ := hc.f
  refine Cl_of mb_X0_wallCount (by show 1 ≤ 3; decide) (sg_X0_wallCount_0 ?_)
  refine Wp.loop (σ := Int × Int) (fun z => [some (vr c), some (vi z.1), some (vi z.2)])
    (fun z ν => ν = (D, ρ) ∧ 0 ≤ z.2 ∧ z.2 ≤ D c 0 ∧ z.1 = zwc (cupv D c) z.2.toNat)
    (fun z => (D c 0 - z.2).toNat) ?_ (0, 0) (D, ρ) ⟨rfl, by decide, l0, rfl⟩
  rintro ⟨g, i⟩ ν ⟨rfl, j0, j1, hv⟩ ih
  dsimp only at j0 j1 hv ih ⊢
  have e4 : mR (D, ρ) c 4 = c + 2 := hc.2.2.1
  have eh : i < 20 → cHole (cupv D c) ((i.toNat : Nat) : Int) = D (c + 2) i := fun h => by
    rw [show ((i.toNat : Nat) : Int) = i by omega]
    exact cut_in j0 h
  refine sg_X0_wallCount_4 ⟨hc.1, fun cc => ⟨_, rfl, ?_, rfl⟩, fun cc => ⟨Or.inl f2, bnd (N := 20) f4 j0 ?_, fun c2 v1 e1 v2 e2 => ?_, fun c2 v1 e1 v2 e2 => ?_⟩⟩
  · change D c 0 ≤ i at cc
    rw [hv, show i = D c 0 by omega]
  · change ¬ D c 0 ≤ i at cc
    show i < 20
    omega
  · change ¬ D c 0 ≤ i at cc
    rw [e4] at c2
    change 100 ≤ D (c + 2) i at c2
    rw [w32_id (x := i + 1) (by omega) (by omega)] at e2
    subst e1 e2
    refine ih (_, i + 1) (D, ρ) ⟨rfl, by dsimp only; omega, by dsimp only; omega, ?_⟩ (by dsimp only; omega)
    dsimp only
    rw [show (i + 1).toNat = i.toNat + 1 by omega]
    show _ = w32 (zwc (cupv D c) i.toNat + (if cHole (cupv D c) ((i.toNat : Nat) : Int) < 100 then 1 else 0))
    rw [eh (by omega), if_neg (by omega), hv]
    rfl
  · change ¬ D c 0 ≤ i at cc
    rw [e4] at c2
    change ¬ 100 ≤ D (c + 2) i at c2
    rw [w32_id (x := i + 1) (by omega) (by omega)] at e2
    subst e1 e2
    refine ih (_, i + 1) (D, ρ) ⟨rfl, by dsimp only; omega, by dsimp only; omega, ?_⟩ (by dsimp only; omega)
    dsimp only
    rw [show (i + 1).toNat = i.toNat + 1 by omega]
    show _ = w32 (zwc (cupv D c) i.toNat + (if cHole (cupv D c) ((i.toNat : Nat) : Int) < 100 then 1 else 0))
    rw [eh (by omega), if_pos (by omega), hv]
    rfl
end H3
