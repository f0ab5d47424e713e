/-! ===== the State's small methods ===== -/
section FRV
variable {F : Nat → Int → Prop} {D D' : DD} {a c o w : Nat}
theorem rowv_fr (h : Fr F D D') (n : ∀ q j, a ≤ q → q ≤ a + 2 → ¬ F q j) : rowv D' a = rowv D a := by
  unfold rowv
  rw [h.obj (fun j => n (a + 1) j (by omega) (by omega)), h.obj (fun j => n (a + 2) j (by omega) (by omega)), h.obj (fun j => n a j (by omega) (by omega))]
theorem stv_fr (h : Fr F D D') (n : ∀ q j, o ≤ q → q ≤ o + 7 → ¬ F q j) : stv D' o = stv D o := by
  unfold stv
  rw [rowv_fr h (fun q j h0 h1 => n q j (by omega) (by omega)), rowv_fr h (fun q j h0 h1 => n q j (by omega) (by omega)), h.obj (fun j => n (o + 7) j (by omega) (by omega)), h.obj (fun j => n o j (by omega) (by omega))]
theorem cupv_fr (h : Fr F D D') (n : ∀ q j, c ≤ q → q ≤ c + 2 → ¬ F q j) : cupv D' c = cupv D c := by
  unfold cupv
  rw [h.obj (fun j => n (c + 1) j (by omega) (by omega)), h.obj (fun j => n (c + 2) j (by omega) (by omega)), h.obj (fun j => n c j (by omega) (by omega))]
theorem wkv_fr (h : Fr F D D') (n : ∀ q j, w ≤ q → q ≤ w + 4 → ¬ F q j) : wkv D' w = wkv D w := by
  unfold wkv
  rw [h.obj (fun j => n (w + 1) j (by omega) (by omega)), h.obj (fun j => n (w + 2) j (by omega) (by omega)), h.obj (fun j => n (w + 3) j (by omega) (by omega)), h.obj (fun j => n (w + 4) j (by omega) (by omega)), h.obj (fun j => n w j (by omega) (by omega))]
end FRV
/-- the facts of a row's, a cup's, a state's shape, as the segments ask for them -/
theorem SRow.f {ρ : Rho} {a : Nat} (h : SRow ρ a) : rK ρ (rR ρ a 0) = 20 ∧ rK ρ (rR ρ a 1) = 20 ∧ rN ρ (rR ρ a 0) = 20 ∧ rN ρ (rR ρ a 1) = 20 := by
  obtain ⟨k0, k1, k2, k3, k4, k5, k6⟩ := h
  rw [k1, k2]
  exact ⟨k3, k4, k5, k6⟩
theorem SCup.f {ρ : Rho} {c : Nat} (h : SCup ρ c) : rK ρ (rR ρ c 3) = 20 ∧ rK ρ (rR ρ c 4) = 20 ∧ rN ρ (rR ρ c 3) = 7 ∧ rN ρ (rR ρ c 4) = 20 := by
  obtain ⟨k0, k1, k2, k3, k4, k5, k6⟩ := h
  rw [k1, k2]
  exact ⟨k3, k4, k5, k6⟩
theorem C_absz {d : Nat} {x : Int} {μ : Mem} : Cl d 0 0 mJ9_abs_0f7a4 [vi x] μ (KI (fun r m => r = zabs x ∧ m = μ)) := by
  refine Cl_of mb_J9_abs_0f7a4 (by show 1 ≤ 1; decide) (sg_J9_abs_0f7a4_0 ⟨fun c => ⟨_, rfl, ?_, rfl⟩, fun c => ⟨_, rfl, ?_, rfl⟩⟩) <;> unfold zabs
  · rw [if_neg (by omega)]
  · rw [if_pos (by omega)]
def bXor (x y : Int) : Int := (Int32.ofInt x ^^^ Int32.ofInt y).toInt
theorem st_ixor {d bc bs : Nat} {M : MI} {pc : Nat} {ls : List (Option AV)} {st : List AV} {μ : Mem} {Q : Option (Option AV) → Mem → Prop} {x y : Int} (hd : decode (mcd M) pc = .ok (.ixor, 1)) (k : Wp d bc bs M (pc + 1) ls (vi (bXor x y) :: st) μ Q) : Wp d bc bs M pc ls (vi y :: vi x :: st) μ Q :=
  Wp.step (fun hC _ _ _ w => lv_ixor hC.1 hC.2.1 hd (by rw [← Int32.ofInt_toInt (Int32.ofInt x ^^^ Int32.ofInt y)]; exact w)) (fun _ _ h => oks_i (i_r _) (oks_t (oks_t h))) k
theorem bXor_nn {x y : Int} (h0 : 0 ≤ x) (h1 : x < 2147483648) (h2 : 0 ≤ y) (h3 : y < 2147483648) : 0 ≤ bXor x y := by
  have e : ∀ z : Int, 0 ≤ z → z < 2147483648 → (Int32.ofInt z).toBitVec.msb = false := by
    intro z z0 z1
    rw [BitVec.msb_eq_toInt, decide_eq_false_iff_not]
    have := i_to (x := z) ⟨by omega, z1⟩
    have e2 : (Int32.ofInt z).toBitVec.toInt = (Int32.ofInt z).toInt := rfl
    rw [e2, this]
    omega
  have h : (Int32.ofInt x ^^^ Int32.ofInt y).toBitVec.msb = false := by
    rw [Int32.toBitVec_xor, BitVec.msb_xor, e x h0 h1, e y h2 h3]
    rfl
  rw [BitVec.msb_eq_toInt, decide_eq_false_iff_not] at h
  unfold bXor
  have e2 : (Int32.ofInt x ^^^ Int32.ofInt y).toBitVec.toInt = (Int32.ofInt x ^^^ Int32.ofInt y).toInt := rfl
  rw [e2] at h
  omega
theorem C_floorMod {d : Nat} {x y : Int} {μ : Mem} (h0 : 0 ≤ x) (h1 : 0 < y) : Cl d 0 0 mJ9_floorMod_7cf53 [vi x, vi y] μ (KI (fun r m => r = x % y ∧ m = μ)) := by
  refine Cl_of mb_J9_floorMod_7cf53 (by show 2 ≤ 3; decide) ?_
  show Wp d 0 0 mJ9_floorMod_7cf53 0 [some (vi x), some (vi y), none] [] μ _
  refine Wp.rngL (i := 0) (x := x) rfl fun hx => Wp.rngL (i := 1) (x := y) rfl fun hy => ?_
  unfold r32 at hx hy
  refine st_iload_n (pc := 0) dJ9_floorMod_7cf53_0 rfl rfl ?_
  refine st_iload_n (pc := 1) dJ9_floorMod_7cf53_1 rfl rfl ?_
  refine st_irem (pc := 2) dJ9_floorMod_7cf53_2 (by omega) ?_
  refine sg_istore_n (pc := 3) (ls' := [some (vi x), some (vi y), some (vi (x.tmod y))]) dJ9_floorMod_7cf53_3 rfl (by show (2 : Nat) < 3; decide) rfl ?_
  refine st_iload_n (pc := 4) dJ9_floorMod_7cf53_4 rfl rfl ?_
  refine st_iload_n (pc := 5) dJ9_floorMod_7cf53_5 rfl rfl ?_
  refine st_ixor (pc := 6) dJ9_floorMod_7cf53_6 ?_
  refine st_ifge (pc := 7) (tgt := 18) dJ9_floorMod_7cf53_7 rfl (fun _ => ?_) (fun c => absurd (bXor_nn h0 hx.2 (by omega) hy.2) c)
  refine st_iload_n (pc := 18) dJ9_floorMod_7cf53_18 rfl rfl ?_
  refine st_ireturn (pc := 19) dJ9_floorMod_7cf53_19 (Or.inl rfl) ⟨_, rfl, ?_, rfl⟩
  exact Int.tmod_eq_emod_of_nonneg h0
theorem fill_cut {D : DD} {a : Nat} {n m x : Int} (h : n ≤ m) : cut n ((fun o k => if o = a ∧ 0 ≤ k ∧ k < m then x else D o k : DD) a) = cut n (fun _ => x) := cut_ext (fun k h0 h1 => if_pos ⟨rfl, h0, by omega⟩)
theorem C_fillP {d : Nat} {a : Nat} {x : Int} {D : DD} {ρ : Rho} (hk : rK ρ a = 20) : Cl d 0 0 mJ7_fill_53178 [vr a, vi x] (D, ρ) (KV (fun m => ∃ D', m = (D', ρ) ∧ Fr (fun o _ => o = a) D D' ∧ ∀ n : Int, n ≤ rN ρ a → cut n (D' a) = cut n (fun _ => x))) := by
  refine Cl.weak (KV.weak ?_) (C_fill (a := a) (x := x) (μ := (D, ρ)) hk)
  intro m hm
  refine ⟨_, hm, fun o j n => if_neg (fun z => n z.1), fun n hn => fill_cut hn⟩
def zfr (x : Int) : Rv := (cut 20 (fun _ => x), cut 20 (fun _ => 0), 0)
def zfresh (c : Cv) (s : Sv) : Sv := (0, sDrawn s, zfr (cFill c), zfr (cFill c), sSeen s)
section ST
variable {d a c o p : Nat} {D : DD} {ρ : Rho}
theorem C_slope (hr : SRow ρ a) (hc : SCup ρ c) (l0 : 1 ≤ D c 0) (l1 : D c 0 ≤ 19) : Cl d 0 0 mX4_slope [vr a, vr c] (D, ρ) (KI (fun r m => r = zslope (cupv D c) (rowv D a) ∧ m = (D, ρ))) := by
  obtain ⟨f1, f2, f3, f4⟩ := hr.f
  obtain ⟨k0, k1, k2, k3, k4, k5, k6⟩ := hr
  refine Cl_of mb_X4_slope (by show 2 ≤ 2; decide) (sg_X4_slope_0 ⟨k0, Or.inl f1, bnd (N := 20) f3 (by decide) (by decide), hc.1, bnd (N := 20) f3 (by show 0 ≤ D c 0; omega) (by show D c 0 < 20; omega), _, rfl, ?_, rfl⟩)
  show w32 (D (rR ρ a 0) 0 - D (rR ρ a 0) (D c 0)) = w32 (cut 20 (D (a + 1)) 0 - cut 20 (D (a + 1)) (D c 0))
  rw [k1, cut_in (by omega) (by omega), cut_in (by omega) (by omega)]
theorem C_higherEnd (hr : SRow ρ a) (hc : SCup ρ c) (l0 : 1 ≤ D c 0) (l1 : D c 0 ≤ 19) : Cl (d + 1) 0 0 mX4_higherEnd [vr a, vr c] (D, ρ) (KI (fun r m => r = zhigh (cupv D c) (rowv D a) ∧ m = (D, ρ))) := by
  obtain ⟨f1, f2, f3, f4⟩ := hr.f
  obtain ⟨k0, k1, k2, k3, k4, k5, k6⟩ := hr
  refine Cl_of mb_X4_higherEnd (by show 2 ≤ 2; decide) (sg_X4_higherEnd_0 ⟨k0, Or.inl f1, bnd (N := 20) f3 (by decide) (by decide), hc.1, bnd (N := 20) f3 (by show 0 ≤ D c 0; omega) (by show D c 0 < 20; omega), cP C_max ⟨_, rfl, ?_, rfl⟩⟩)
  show max (D (rR ρ a 0) 0) (D (rR ρ a 0) (D c 0)) = max (cut 20 (D (a + 1)) 0) (cut 20 (D (a + 1)) (D c 0))
  rw [k1, cut_in (by omega) (by omega), cut_in (by omega) (by omega)]
theorem C_rfresh (hr : SRow ρ a) (hc : SCup ρ c) : Cl (d + 1) 0 0 mX4_freshen [vr a, vr c] (D, ρ) (KV (fun m => ∃ D', m = (D', ρ) ∧ Fr (fun q _ => a ≤ q ∧ q ≤ a + 2) D D' ∧ rowv D' a = zfr (D c 2))) := by
  obtain ⟨f1, f2, f3, f4⟩ := hr.f
  obtain ⟨k0, k1, k2, k3, k4, k5, k6⟩ := hr
  refine Cl_of mb_X4_freshen (by show 2 ≤ 2; decide) (sg_X4_freshen_0 ⟨k0, hc.1, 0, 0, _, C_fillP (ρ := ρ) (D := D) f1, Nat.le_refl _, Nat.le_refl _, ?_⟩)
  rintro m1 ⟨D1, rfl, h1, v1⟩
  refine ⟨k0, 0, 0, _, C_fillP (ρ := ρ) (D := D1) f2, Nat.le_refl _, Nat.le_refl _, ?_⟩
  rintro m2 ⟨D2, rfl, h2, v2⟩
  refine ⟨k0, fun m3 e3 => ⟨rfl, wr D2 a 2 0, e3, ?_, ?_⟩⟩
  · rw [show mR (D, ρ) a 0 = a + 1 from k1] at h1
    rw [show mR (D1, ρ) a 1 = a + 2 from k2] at h2
    exact ((h1.mono (fun q j h => by omega)).trans (h2.mono (fun q j h => by omega))).wr ⟨by omega, by omega⟩
  · rw [show mR (D, ρ) a 0 = a + 1 from k1] at h1 v1
    rw [show mR (D1, ρ) a 1 = a + 2 from k2] at h2 v2
    unfold rowv zfr
    rw [wr_o (by omega), wr_o (by omega), wr_at, h2.obj (fun j => by omega), v1 20 (by rw [k5]; decide), v2 20 (by rw [k6]; decide)]
    rfl
theorem C_sfresh (hs : SSt ρ o) (hc : SCup ρ c) (hd : c + 2 < o ∨ o + 7 < c) : Cl (d + 2) 0 0 mX5_freshen [vr o, vr c] (D, ρ) (KV (fun m => ∃ D', m = (D', ρ) ∧ Fr (fun q _ => o ≤ q ∧ q ≤ o + 7) D D' ∧ stv D' o = zfresh (cupv D c) (stv D o))) := by
  obtain ⟨s0, s1, s2, s3, r1, r2, s4, s5⟩ := hs
  refine Cl_of mb_X5_freshen (by show 2 ≤ 2; decide) (sg_X5_freshen_0 ⟨s0, ?_⟩)
  rintro m1 rfl
  rw [sD_mk, show mR (wr D o 0 0, ρ) o 2 = o + 1 from s1]
  refine ⟨r1.1, 0, 0, _, C_rfresh r1 hc, Nat.le_refl _, Nat.le_refl _, ?_⟩
  rintro m2 ⟨D2, rfl, h2, v2⟩
  rw [show mR (D2, ρ) o 3 = o + 4 from s2]
  refine ⟨s0, r2.1, 0, 0, _, C_rfresh r2 hc, Nat.le_refl _, Nat.le_refl _, ?_⟩
  rintro m3 ⟨D3, rfl, h3, v3⟩
  refine ⟨rfl, D3, rfl, ?_, ?_⟩
  · exact ((Fr.refl.wr (a := o) (i := 0) ⟨by omega, by omega⟩).trans (h2.mono (fun q j h => by omega))).trans (h3.mono (fun q j h => by omega))
  · have e1 : (wr D o 0 0) c 2 = D c 2 := by rw [wr_o (by omega)]
    have e2 : D2 c 2 = D c 2 := by rw [h2 c 2 (by omega), e1]
    unfold stv zfresh
    rw [rowv_fr h3 (fun q j h0 h1 => by omega), v2, v3, e1, e2, h3 o 0 (by omega), h3 o 1 (by omega), h2 o 0 (by omega), h2 o 1 (by omega), wr_at, wr_j (by decide), h3.obj (fun j => by omega), h2.obj (fun j => by omega), wr_o (by omega)]
    rfl
def cpD (D : DD) (a b : Nat) (n : Int) : DD := fun o k => if o = b ∧ 0 ≤ k ∧ k < 0 + n then D a (0 + (k - 0)) else D o k
theorem sCp_mk {b : Nat} {n : Int} (hX : ρ.2.2.2 = 0) : sCp (D, ρ) a 0 b 0 n = (cpD D a b n, ρ) := by
  obtain ⟨R, K, N, X⟩ := ρ
  subst hX
  rfl
theorem cpD_fr {b : Nat} {n : Int} : Fr (fun q _ => q = b) D (cpD D a b n) := fun q j h => if_neg (fun z => h z.1)
theorem cpD_cut {b : Nat} {n : Int} : cut n (cpD D a b n b) = cut n (D a) := cut_ext (fun k h0 h1 => by
  unfold cpD
  rw [if_pos ⟨rfl, h0, by omega⟩]
  congr 1
  omega)
theorem C_rcopy {b : Nat} (hX : ρ.2.2.2 = 0) (ha : SRow ρ a) (hb : SRow ρ b) (hd : b + 2 < a ∨ a + 2 < b) : Cl d 0 0 mX4_copy [vr a, vr b] (D, ρ) (KV (fun m => ∃ D', m = (D', ρ) ∧ Fr (fun q _ => a ≤ q ∧ q ≤ a + 2) D D' ∧ rowv D' a = rowv D b)) := by
  obtain ⟨f1, f2, f3, f4⟩ := ha.f
  obtain ⟨g1, g2, g3, g4⟩ := hb.f
  obtain ⟨k0, k1, k2, k3, k4, k5, k6⟩ := ha
  obtain ⟨l0, l1, l2, l3, l4, l5, l6⟩ := hb
  have n1 : (mN (D, ρ) (mR (D, ρ) a 0) : Int) = 20 := by show ((rN ρ (rR ρ a 0) : Nat) : Int) = 20; rw [f3]; rfl
  have n2 : (mN (D, ρ) (mR (D, ρ) b 0) : Int) = 20 := by show ((rN ρ (rR ρ b 0) : Nat) : Int) = 20; rw [g3]; rfl
  refine Cl_of mb_X4_copy (by show 2 ≤ 2; decide) (sg_X4_copy_0 ⟨l0, k0, ka f1, g1, f1, by decide, by decide, by omega, by omega, by omega, ?_⟩)
  rintro m1 rfl
  rw [n1, sCp_mk hX, show mR (D, ρ) b 0 = b + 1 from l1, show mR (D, ρ) a 0 = a + 1 from k1]
  have n3 : (mN (cpD D (b + 1) (a + 1) 20, ρ) (mR (cpD D (b + 1) (a + 1) 20, ρ) a 1) : Int) = 20 := by show ((rN ρ (rR ρ a 1) : Nat) : Int) = 20; rw [f4]; rfl
  have n4 : (mN (cpD D (b + 1) (a + 1) 20, ρ) (mR (cpD D (b + 1) (a + 1) 20, ρ) b 1) : Int) = 20 := by show ((rN ρ (rR ρ b 1) : Nat) : Int) = 20; rw [g4]; rfl
  refine ⟨ka f2, g2, f2, by decide, by decide, by omega, by omega, by omega, ?_⟩
  rintro m2 rfl
  rw [n3, sCp_mk hX, show mR (cpD D (b + 1) (a + 1) 20, ρ) b 1 = b + 2 from l2, show mR (cpD D (b + 1) (a + 1) 20, ρ) a 1 = a + 2 from k2]
  rintro m3 rfl
  refine ⟨rfl, _, rfl, ?_, ?_⟩
  · exact ((cpD_fr.mono (fun q j h => by omega)).trans (cpD_fr.mono (fun q j h => by omega))).wr ⟨by omega, by omega⟩
  · show rowv (wr (cpD (cpD D (b + 1) (a + 1) 20) (b + 2) (a + 2) 20) a 2 (cpD (cpD D (b + 1) (a + 1) 20) (b + 2) (a + 2) 20 b 2)) a = _
    unfold rowv
    have q1 : ∀ (E : DD) (x y z : Nat), z ≠ y → cpD E x y 20 z = E z := fun E x y z h => by funext k; exact if_neg (fun w => h w.1)
    rw [wr_o (by omega), wr_o (by omega), wr_at, q1 _ _ _ (a + 1) (by omega), cpD_cut, cpD_cut, q1 _ _ _ (b + 2) (by omega), q1 _ _ _ b (by omega), q1 _ _ _ b (by omega)]
theorem C_scopy (hX : ρ.2.2.2 = 0) (ho : SSt ρ o) (hp : SSt ρ p) (hd : p + 7 < o ∨ o + 7 < p) : Cl (d + 1) 0 0 mX5_copy [vr o, vr p] (D, ρ) (KV (fun m => ∃ D', m = (D', ρ) ∧ Fr (fun q _ => o ≤ q ∧ q ≤ o + 7) D D' ∧ stv D' o = stv D p)) := by
  obtain ⟨s0, s1, s2, s3, r1, r2, s4, s5⟩ := ho
  obtain ⟨t0, t1, t2, t3, u1, u2, t4, t5⟩ := hp
  refine Cl_of mb_X5_copy (by show 2 ≤ 2; decide) (sg_X5_copy_0 ⟨t0, s0, ?_⟩)
  intro m1 e1 m2 e2
  obtain ⟨E, eE, hE, hE0, hE1⟩ : ∃ E : DD, m2 = (E, ρ) ∧ Fr (fun q _ => o ≤ q ∧ q ≤ o + 7) D E ∧ E o 0 = D p 0 ∧ E o 1 = D p 1 := by
    refine ⟨wr (wr D o 0 (D p 0)) o 1 (wr D o 0 (D p 0) p 1), by rw [e2, e1]; rfl, (Fr.refl.wr (a := o) (i := 0) ⟨by omega, by omega⟩).wr (a := o) (i := 1) ⟨by omega, by omega⟩, ?_, ?_⟩
    · rw [wr_j (by decide), wr_at]
    · rw [wr_at, wr_o (by omega)]
  subst eE
  rw [show mR (E, ρ) o 2 = o + 1 from s1, show mR (E, ρ) p 2 = p + 1 from t1]
  refine ⟨r1.1, 0, 0, _, C_rcopy hX r1 u1 (by omega), Nat.le_refl _, Nat.le_refl _, ?_⟩
  rintro m3 ⟨D3, rfl, h3, v3⟩
  rw [show mR (D3, ρ) o 3 = o + 4 from s2, show mR (D3, ρ) p 3 = p + 4 from t2]
  refine ⟨s0, t0, r2.1, 0, 0, _, C_rcopy hX r2 u2 (by omega), Nat.le_refl _, Nat.le_refl _, ?_⟩
  rintro m4 ⟨D4, rfl, h4, v4⟩
  have n1 : (mN (D4, ρ) (mR (D4, ρ) o 4) : Int) = 21 := by show ((rN ρ (rR ρ o 4) : Nat) : Int) = 21; rw [s3, s5]; rfl
  have n2 : (mN (D4, ρ) (mR (D4, ρ) p 4) : Int) = 21 := by show ((rN ρ (rR ρ p 4) : Nat) : Int) = 21; rw [t3, t5]; rfl
  have g1 : rK ρ (rR ρ o 4) = 20 := by rw [s3]; exact s4
  have g2 : rK ρ (rR ρ p 4) = 20 := by rw [t3]; exact t4
  refine ⟨t0, s0, ka g1, g2, g1, by decide, by decide, by omega, by omega, by omega, ?_⟩
  rintro m5 rfl
  rw [n1, sCp_mk hX, show mR (D4, ρ) o 4 = o + 7 from s3, show mR (D4, ρ) p 4 = p + 7 from t3]
  have q1 : ∀ (z : Nat), z ≠ o + 7 → cpD D4 (p + 7) (o + 7) 21 z = D4 z := fun z h => by funext k; exact if_neg (fun w => h w.1)
  refine ⟨rfl, _, rfl, ?_, ?_⟩
  · exact ((hE.trans (h3.mono (fun q j h => by omega))).trans (h4.mono (fun q j h => by omega))).trans (cpD_fr.mono (fun q j h => by omega))
  · unfold stv
    have hv : ∀ a, a + 2 < o + 7 ∨ o + 7 < a → rowv (cpD D4 (p + 7) (o + 7) 21) a = rowv D4 a := fun a h => by
      unfold rowv
      rw [q1 (a + 1) (by omega), q1 (a + 2) (by omega), q1 a (by omega)]
    rw [hv (o + 1) (by omega), hv (o + 4) (by omega), v4, rowv_fr h4 (fun q j h0 h1 => by omega), v3, q1 o (by omega), h4 o 0 (by omega), h3 o 0 (by omega), h4 o 1 (by omega), h3 o 1 (by omega), hE0, hE1, cpD_cut,
      h4.obj (fun j => by omega), h3.obj (fun j => by omega), hE.obj (fun j => by omega), rowv_fr h3 (fun q j h0 h1 => by omega), rowv_fr hE (fun q j h0 h1 => by omega), rowv_fr hE (fun q j h0 h1 => by omega)]
end ST
