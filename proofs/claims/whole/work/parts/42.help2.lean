/-! ===== the class's small methods, 2: telling, walls, distances, the spare WALK ===== -/
def toldv (D : DD) : List Int := lst (D 98) (D 4 16)
def tlF (q : Nat) (j : Int) : Prop := (q = 4 ∧ j = 16) ∨ q = 98
def zcd : Nat → Int → Int → Int
  | 0, a, _ => a
  | n + 1, a, b => if b ≤ 0 then a else zcd n b (a.tmod b)
def zup (u l : Int) : Int := if zcd 100 (zabs u) l = 0 then 0 else w32 (u.tdiv (zcd 100 (zabs u) l))
def zlow (u l : Int) : Int := if zcd 100 (zabs u) l = 0 then 1 else w32 (l.tdiv (zcd 100 (zabs u) l))
section TL
variable {d n1 : Nat} {W : Nat → Nat} {D : DD}
theorem C_tellMore {x : Int} (h0 : 0 ≤ D 4 16) (h1 : D 4 16 < 4) : Cl d 0 0 mX9_tellMore [vr 4, vl x] (D, rho n1 W) (KV (fun m => ∃ D', m = (D', rho n1 W) ∧ Fr tlF D D' ∧ D' 4 16 = D 4 16 + 1 ∧ toldv D' = toldv D ++ [x])) := by
  refine Cl_of mb_X9_tellMore (by show 3 ≤ 3; decide) (sg_X9_tellMore_0 ⟨rfl, kb (Nat.le_of_ble_eq_true rfl) (Nat.le_of_ble_eq_true rfl), fun c => ?_, fun c => ⟨rfl, ⟨h0, Int.not_le.mp c⟩, fun m1 e1 m2 e2 => ⟨rfl, wr (wr D 98 (D 4 16) x) 4 16 (w32 (D 4 16 + 1)), by rw [e2, e1]; rfl, ?_, ?_, ?_⟩⟩⟩)
  · have c : ((4 : Nat) : Int) ≤ D 4 16 := c
    omega
  · exact (Fr.refl.wr (by unfold tlF; omega)).wr (by unfold tlF; omega)
  · rw [wr_at, w32_id (by omega) (by omega)]
  · unfold toldv
    rw [wr_at, wr_o (by decide), wr_A, w32_id (by omega) (by omega), lst_push h0]
theorem C_tell1 {x : Int} : Cl (d + 1) 0 0 mX9_tell [vr 4, vl x] (D, rho n1 W) (KV (fun m => ∃ D', m = (D', rho n1 W) ∧ Fr tlF D D' ∧ D' 4 16 = 1 ∧ toldv D' = [x])) := by
  refine Cl_of mb_X9_tell (by show 3 ≤ 3; decide) (sg_X9_tell_0 ⟨rfl, fun m1 e1 => ?_⟩)
  obtain ⟨E, q0, hE, hE0⟩ : ∃ E : DD, m1 = (E, rho n1 W) ∧ Fr tlF D E ∧ E 4 16 = 0 := ⟨wr D 4 16 0, e1, Fr.refl.wr (by unfold tlF; omega), wr_at⟩
  subst q0
  refine cV (C_tellMore (D := E) (by rw [hE0]; decide) (by rw [hE0]; decide)) ?_
  rintro m2 ⟨E2, rfl, h1, h2, h3⟩
  refine ⟨rfl, E2, rfl, hE.trans h1, by rw [h2, hE0]; rfl, ?_⟩
  rw [h3]
  unfold toldv
  rw [hE0, lst_0 (by decide)]
  rfl
theorem C_tell2 {x y : Int} : Cl (d + 2) 0 0 mX9_tell_ [vr 4, vl x, vl y] (D, rho n1 W) (KV (fun m => ∃ D', m = (D', rho n1 W) ∧ Fr tlF D D' ∧ D' 4 16 = 2 ∧ toldv D' = [x, y])) := by
  refine Cl_of mb_X9_tell_ (by show 5 ≤ 5; decide) (sg_X9_tell__0 ⟨rfl, cV C_tell1 ?_⟩)
  rintro m1 ⟨E, rfl, h1, h2, h3⟩
  refine ⟨rfl, cV (C_tellMore (D := E) (by rw [h2]; decide) (by rw [h2]; decide)) ?_⟩
  rintro m2 ⟨E2, rfl, g1, g2, g3⟩
  exact ⟨rfl, E2, rfl, h1.trans g1, by rw [g2, h2]; rfl, by rw [g3, h3]; rfl⟩
theorem C_tell3 {x y z : Int} : Cl (d + 3) 0 0 mX9_tell__ [vr 4, vl x, vl y, vl z] (D, rho n1 W) (KV (fun m => ∃ D', m = (D', rho n1 W) ∧ Fr tlF D D' ∧ D' 4 16 = 3 ∧ toldv D' = [x, y, z])) := by
  refine Cl_of mb_X9_tell__ (by show 7 ≤ 7; decide) (sg_X9_tell___0 ⟨rfl, cV C_tell2 ?_⟩)
  rintro m1 ⟨E, rfl, h1, h2, h3⟩
  refine ⟨rfl, cV (C_tellMore (D := E) (by rw [h2]; decide) (by rw [h2]; decide)) ?_⟩
  rintro m2 ⟨E2, rfl, g1, g2, g3⟩
  exact ⟨rfl, E2, rfl, h1.trans g1, by rw [g2, h2]; rfl, by rw [g3, h3]; rfl⟩
theorem C_commonDivisor {a b : Int} {μ : Mem} : Cl d 0 0 mX9_commonDivisor [vi a, vi b] μ (KI (fun r m => r = zcd 100 a b ∧ m = μ)) := by
  refine Cl_of mb_X9_commonDivisor (by show 2 ≤ 6; decide) (sg_X9_commonDivisor_0 ?_)
  refine Wp.loop (σ := Int × Int × Int) (fun z => [some (vi a), some (vi b), some (vi z.1), some (vi z.2.1), some (vi z.2.2), none])
    (fun z ν => ν = μ ∧ 0 ≤ z.2.2 ∧ z.2.2 ≤ 100 ∧ zcd (100 - z.2.2).toNat z.1 z.2.1 = zcd 100 a b)
    (fun z => (100 - z.2.2).toNat) ?_ (a, b, 0) μ ⟨rfl, Int.le_refl 0, by dsimp only; decide, rfl⟩
  rintro ⟨x, y, i⟩ ν ⟨rfl, i0, i1, hv⟩ ih
  dsimp only at i0 i1 hv ih ⊢
  refine sg_X9_commonDivisor_7 ⟨fun c => ⟨_, rfl, ?_, rfl⟩, fun c => ⟨fun c2 => ⟨_, rfl, ?_, rfl⟩, fun c2 => ⟨by omega, fun v1 e1 v2 e2 => ?_⟩⟩⟩
  · rw [← hv, show (100 - i).toNat = 0 by omega]
    rfl
  · rw [← hv, show (100 - i).toNat = (99 - i).toNat + 1 by omega]
    exact (if_pos c2).symm
  · rw [w32_id (by omega) (by omega)] at e2
    subst e1 e2
    refine ih (y, x.tmod y, i + 1) ν ⟨rfl, by dsimp only; omega, by dsimp only; omega, ?_⟩ (by dsimp only; omega)
    dsimp only
    rw [← hv, show (100 - i).toNat = (100 - (i + 1)).toNat + 1 by omega]
    exact (if_neg c2).symm
theorem C_tellFraction {u l : Int} (h0 : 0 ≤ D 4 16) (h1 : D 4 16 < 3) : Cl (d + 1) 0 0 mX9_tellFraction [vr 4, vi u, vi l] (D, rho n1 W) (KV (fun m => ∃ D', m = (D', rho n1 W) ∧ Fr tlF D D' ∧ D' 4 16 = D 4 16 + 2 ∧ toldv D' = toldv D ++ [zup u l, zlow u l])) := by
  refine Cl_of mb_X9_tellFraction (by show 3 ≤ 4; decide) (sg_X9_tellFraction_0 (cP C_absz (cP C_commonDivisor ⟨fun c => ⟨c, rfl, cV (C_tellMore (D := D) h0 (by omega)) ?_⟩, fun c => ⟨rfl, cV (C_tellMore (D := D) h0 (by omega)) ?_⟩⟩)))
  · rintro m1 ⟨E, rfl, g1, g2, g3⟩
    refine ⟨fun c2 => ⟨c, rfl, cV (C_tellMore (D := E) (by omega) (by omega)) ?_⟩, fun c2 => absurd c2 c⟩
    rintro m2 ⟨E2, rfl, k1, k2, k3⟩
    refine ⟨rfl, E2, rfl, g1.trans k1, by omega, ?_⟩
    rw [k3, g3]
    unfold zup zlow
    rw [if_neg c, if_neg c, List.append_assoc]
    rfl
  · rintro m1 ⟨E, rfl, g1, g2, g3⟩
    refine ⟨fun c2 => absurd c c2, fun c2 => ⟨rfl, cV (C_tellMore (D := E) (by omega) (by omega)) ?_⟩⟩
    rintro m2 ⟨E2, rfl, k1, k2, k3⟩
    refine ⟨rfl, E2, rfl, g1.trans k1, by omega, ?_⟩
    rw [k3, g3]
    unfold zup zlow
    rw [if_pos c, if_pos c, List.append_assoc]
    rfl
theorem C_isGap {g : Int} (l0 : 1 ≤ D 5 0) (l1 : D 5 0 ≤ 19) : Cl (d + 1) 0 0 mX9_isGap [vr 4, vi g] (D, rho n1 W) (KI (fun r m => r = bi (0 ≤ g ∧ g ≤ D 5 0 - 1) ∧ m = (D, rho n1 W))) := by
  refine Cl_of mb_X9_isGap (by show 2 ≤ 2; decide) (sg_X9_isGap_0 ⟨rfl, rfl, cP C_isIn ⟨bi_or, _, rfl, ?_, rfl⟩⟩)
  show bi (0 ≤ g ∧ g ≤ w32 (D 5 0 - 1)) = _
  rw [w32_id (by omega) (by omega)]
theorem C_isHand {h : Int} (hm : MP D W) : Cl (d + 2) 0 0 mX9_isHand [vr 4, vi h] (D, rho n1 W) (KI (fun r m => r = bi (h = 3 ∨ tlaw D W h ≠ 0) ∧ m = (D, rho n1 W))) := by
  refine Cl_of mb_X9_isHand (by show 2 ≤ 2; decide) (sg_X9_isHand_0 ⟨fun c => ⟨_, rfl, (bi_1 (Or.inl c)).symm, rfl⟩, fun c => ⟨rfl, cR (C_toldLaw hm) ?_⟩⟩)
  rintro b m ⟨rfl, rfl⟩
  exact ⟨fun c2 => ⟨_, rfl, (bi_0 (fun z => z.elim c (fun z => z c2))).symm, rfl⟩, fun c2 => ⟨_, rfl, (bi_1 (Or.inr c2)).symm, rfl⟩⟩
theorem C_isOpen {g : Int} (l0 : 1 ≤ D 5 0) (l1 : D 5 0 ≤ 19) : Cl (d + 2) 0 0 mX9_isOpen [vr 4, vi g] (D, rho n1 W) (KI (fun r m => r = bi ((0 ≤ g ∧ g ≤ D 5 0 - 1) ∧ D 7 g = 100) ∧ m = (D, rho n1 W))) := by
  refine Cl_of mb_X9_isOpen (by show 2 ≤ 2; decide) (sg_X9_isOpen_0 ⟨rfl, cB (C_isGap l0 l1) (fun hy => yE ⟨rfl, rfl, Or.inl rfl, bnd (N := 20) rfl hy.1 (by omega), fun c => ⟨_, rfl, ?_, rfl⟩, fun c => ⟨_, rfl, ?_, rfl⟩⟩) (fun hy => nE ⟨_, rfl, ?_, rfl⟩)⟩)
  · exact (bi_0 (fun z => c z.2)).symm
  · exact (bi_1 ⟨hy, c⟩).symm
  · exact (bi_0 (fun z => hy z.1)).symm
def zSet (c : Cv) (k v : Int) : Cv := (c.1, c.2.1, c.2.2.1, zu (cSet c) k v, cHole c)
def zHole (c : Cv) (k v : Int) : Cv := (c.1, c.2.1, c.2.2.1, cSet c, zu (cHole c) k v)
theorem cupv_hole {c : Nat} {k v : Int} (h0 : 0 ≤ k) (h1 : k < 20) : cupv (wr D (c + 2) k v) c = zHole (cupv D c) k v := by
  unfold cupv zHole cSet cHole
  rw [wr_A, cut_zu h0 h1, wr_o (by omega), wr_o (by omega)]
theorem cupv_set {c : Nat} {k v : Int} (h0 : 0 ≤ k) (h1 : k < 7) : cupv (wr D (c + 1) k v) c = zSet (cupv D c) k v := by
  unfold cupv zSet cSet cHole
  rw [wr_A, cut_zu h0 h1, wr_o (by omega), wr_o (by omega)]
/-- the Trial, with another cup -/
def TRc (D : DD) (W : Nat → Nat) (D' : DD) (W' : Nat → Nat) (c : Cv) : Prop := AF D W D' W' ∧ cupv D' 31 = c ∧ W' 9 = tlaw D W (cSet (cupv D 5) 6)
theorem TRc.wr {D' : DD} {W' : Nat → Nat} {c : Cv} {a : Nat} {j x : Int} (h : TRc D W D' W' c) (ha : 31 ≤ a) (hb : a ≤ 33) {c' : Cv} (hc : cupv (wr D' a j x) 31 = c') : TRc D W (wr D' a j x) W' c' :=
  ⟨⟨h.1.1.wr (by unfold aF; omega), h.1.2⟩, hc, h.2.2⟩
theorem C_walled {x i j : Int} (hm : MP D W) (i0 : 0 ≤ i) (i1 : i < 20) (j0 : 0 ≤ j) (j1 : j < 20) : Cl (d + 3) 0 0 mX9_walled [vr 4, vi x, vi i, vi j] (D, rho n1 W) (KR (fun r m => r = 30 ∧ ∃ (D' : DD) (W' : Nat → Nat), m = (D', rho n1 W') ∧ TRc D W D' W' (zHole (zHole (cupv D 5) i x) j x))) := by
  refine Cl_of mb_X9_walled (by show 4 ≤ 5; decide) (sg_X9_walled_0 ⟨rfl, cR (C_asItIs hm) ?_⟩)
  rintro b m1 ⟨rfl, E, V, rfl, hT⟩
  refine ⟨rfl, rfl, rfl, bnd (N := 20) rfl i0 i1, fun m2 e2 => ?_⟩
  have e2 : m2 = (wr E 33 i x, rho n1 V) := e2
  subst e2
  refine ⟨bnd (N := 20) rfl j0 j1, fun m3 e3 => ⟨_, rfl, rfl, wr (wr E 33 i x) 33 j x, V, e3, ?_⟩⟩
  have h1 : TRc D W (wr E 33 i x) V (zHole (cupv D 5) i x) := TRc.wr (c := cupv D 5) hT (by decide) (by decide) (by rw [cupv_hole i0 i1, hT.2.1])
  exact TRc.wr h1 (by decide) (by decide) (by rw [cupv_hole j0 j1, h1.2.1])
end TL
