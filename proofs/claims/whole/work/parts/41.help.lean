/-! ===== the class's small methods ===== -/
section HB
variable {d : Nat} {μ : Mem}
theorem bi_or {p : Prop} [Decidable p] : bi p = 0 ∨ bi p = 1 := by
  unfold bi
  split
  · exact Or.inr rfl
  · exact Or.inl rfl
theorem C_isPush {x : Int} : Cl (d + 1) 0 0 mX9_isPush [vi x] μ (KI (fun r m => r = bi (-500 ≤ x ∧ x ≤ 500) ∧ m = μ)) :=
  Cl_of mb_X9_isPush (by show 1 ≤ 1; decide) (sg_X9_isPush_0 (cP C_isIn ⟨bi_or, _, rfl, rfl, rfl⟩))
theorem C_isRow {x : Int} : Cl (d + 1) 0 0 mX9_isRow [vi x] μ (KI (fun r m => r = bi (0 ≤ x ∧ x ≤ 1) ∧ m = μ)) :=
  Cl_of mb_X9_isRow (by show 1 ≤ 1; decide) (sg_X9_isRow_0 (cP C_isIn ⟨bi_or, _, rfl, rfl, rfl⟩))
theorem C_isWalk {x : Int} : Cl (d + 1) 0 0 mX9_isWalk [vi x] μ (KI (fun r m => r = bi (0 ≤ x ∧ x ≤ 3) ∧ m = μ)) :=
  Cl_of mb_X9_isWalk (by show 1 ≤ 1; decide) (sg_X9_isWalk_0 (cP C_isIn ⟨bi_or, _, rfl, rfl, rfl⟩))
end HB
theorem RF_19 {W : Nat → Nat} {j : Int} (h0 : 0 ≤ j) (h1 : j < 4) : RF W 19 j = W j.toNat := if_pos ⟨rfl, h0, h1⟩
theorem RF_26 {W : Nat → Nat} {j : Int} (h0 : 0 ≤ j) (h1 : j < 3) : RF W 26 j = W (5 + j.toNat) := (if_neg (fun z => absurd z.1 (by decide))).trans (if_pos ⟨rfl, h0, h1⟩)
/-- what holds of the class's memory throughout -/
def MP (D : DD) (W : Nat → Nat) : Prop := COK (cupv D 5) ∧ (∀ i, i < 5 → walkId (W i)) ∧ (∀ i, 5 ≤ i → i < 9 → lawId (W i)) ∧ (∀ i, i < 5 → 0 ≤ D (W i) 4 ∧ D (W i) 4 ≤ 1000)
def tlaw (D : DD) (W : Nat → Nat) (l : Int) : Nat := if (0 ≤ l ∧ l ≤ 2) ∧ 0 < D (W (5 + l.toNat)) 2 then W (5 + l.toNat) else 0
/-- what the Trial, and what a run of it, changes -/
def aF (q : Nat) (_ : Int) : Prop := (29 ≤ q ∧ q ≤ 44) ∨ q = 145 ∨ q = 148 ∨ q = 151
theorem rF_aF : ∀ q j, rF q j → aF q j := fun q j h => by unfold rF at h; unfold aF; omega
/-- the class's memory but for the Trial is as it was -/
def AF (D : DD) (W : Nat → Nat) (D' : DD) (W' : Nat → Nat) : Prop := Fr aF D D' ∧ ∀ i, i ≠ 9 → W' i = W i
theorem AF.refl {D : DD} {W : Nat → Nat} : AF D W D W := ⟨Fr.refl, fun _ _ => rfl⟩
theorem AF.trans {D D' D'' : DD} {W W' W'' : Nat → Nat} (h : AF D W D' W') (g : AF D' W' D'' W'') : AF D W D'' W'' := ⟨h.1.trans g.1, fun i hi => (g.2 i hi).trans (h.2 i hi)⟩
section AFV
variable {D D' : DD} {W W' : Nat → Nat}
theorem AF.cup (h : AF D W D' W') : cupv D' 5 = cupv D 5 := cupv_fr h.1 (fun q j a b => by unfold aF; omega)
theorem AF.walk (h : AF D W D' W') (hm : MP D W) {i : Nat} (hi : i < 5) : W' i = W i ∧ wkv D' (W i) = wkv D (W i) ∧ D' (W i) 4 = D (W i) 4 := by
  have hw := hm.2.1 i hi
  exact ⟨h.2 i (by omega), wkv_fr h.1 (fun q j a b => by unfold aF; unfold walkId at hw; omega), h.1 _ _ (by unfold aF; unfold walkId at hw; omega)⟩
theorem AF.tl (h : AF D W D' W') (hm : MP D W) {l : Int} : tlaw D' W' l = tlaw D W l := by
  unfold tlaw
  by_cases e : 0 ≤ l ∧ l ≤ 2
  · have hl := hm.2.2.1 (5 + l.toNat) (by omega) (by omega)
    rw [h.2 _ (by omega), h.1 (W (5 + l.toNat)) 2 (by unfold aF; unfold lawId at hl; omega)]
  · rw [if_neg (fun z => e z.1), if_neg (fun z => e z.1)]
theorem tlaw_id (hm : MP D W) {l : Int} : tlaw D W l = 0 ∨ lawId (tlaw D W l) := by
  unfold tlaw
  split
  · rename_i e
    exact Or.inr (hm.2.2.1 _ (by omega) (by omega))
  · exact Or.inl rfl
theorem AF.lw (h : AF D W D' W') {l : Nat} (hl : l = 0 ∨ lawId l) : lawO D' l = lawO D l := by
  rcases hl with e | e
  · unfold lawO
    rw [if_pos e, if_pos e]
  · exact lawO_fr h.1 (fun j => by unfold aF; unfold lawId at e; omega)
theorem AF.mp (h : AF D W D' W') (hm : MP D W) : MP D' W' := by
  refine ⟨by rw [h.cup]; exact hm.1, fun i hi => by rw [h.2 i (by omega)]; exact hm.2.1 i hi, fun i h0 h1 => by rw [h.2 i (by omega)]; exact hm.2.2.1 i h0 h1, fun i hi => ?_⟩
  obtain ⟨e1, e2, e3⟩ := h.walk hm hi
  rw [e1, e3]
  exact hm.2.2.2 i hi
end AFV
/-- by what law the hand gives -/
def hcode (D : DD) (W : Nat → Nat) : Option (List Int) := lawO D (tlaw D W (cSet (cupv D 5) 6))
/-- the Trial as asItIs leaves it -/
def TRd (D : DD) (W : Nat → Nat) (D' : DD) (W' : Nat → Nat) : Prop := AF D W D' W' ∧ cupv D' 31 = cupv D 5 ∧ W' 9 = tlaw D W (cSet (cupv D 5) 6)
section HM
variable {d n1 : Nat} {W : Nat → Nat} {D : DD}
theorem C_toldLaw {l : Int} (hm : MP D W) : Cl (d + 1) 0 0 mX9_toldLaw [vr 4, vi l] (D, rho n1 W) (KR (fun r m => r = tlaw D W l ∧ m = (D, rho n1 W))) := by
  refine Cl_of mb_X9_toldLaw (by show 2 ≤ 2; decide) (sg_X9_toldLaw_0 (cB C_isIn (fun hy => yE ⟨rfl, rfl, bnd (N := 3) rfl hy.1 (by omega), ?_⟩) (fun hy => nE ⟨_, rfl, ?_, rfl⟩)))
  · have hl := hm.2.2.1 (5 + l.toNat) (by omega) (by omega)
    have e : mR (D, rho n1 W) (mR (D, rho n1 W) 4 8) l = W (5 + l.toNat) := RF_26 hy.1 (by omega)
    rw [e]
    refine ⟨(sLaw_of (n1 := n1) (W := W) hl).1, fun c => ⟨_, rfl, ?_, rfl⟩, fun c => ⟨bnd (N := 3) rfl hy.1 (by omega), _, rfl, ?_, rfl⟩⟩
    · change D (W (5 + l.toNat)) 2 ≤ 0 at c
      unfold tlaw
      rw [if_neg (fun z => absurd z.2 (by omega))]
    · change ¬ D (W (5 + l.toNat)) 2 ≤ 0 at c
      unfold tlaw
      rw [if_pos ⟨hy, by omega⟩]
  · unfold tlaw
    rw [if_neg (fun z => hy z.1)]
theorem C_cupcopy {a b : Nat} {ρ : Rho} (hX : ρ.2.2.2 = 0) (ha : SCup ρ a) (hb : SCup ρ b) (hd : b + 2 < a ∨ a + 2 < b) : Cl d 0 0 mX0_copy [vr a, vr b] (D, ρ) (KV (fun m => ∃ D', m = (D', ρ) ∧ Fr (fun q _ => a ≤ q ∧ q ≤ a + 2) D D' ∧ cupv D' a = cupv D b)) := by
  obtain ⟨f1, f2, f3, f4⟩ := ha.f
  obtain ⟨g1, g2, g3, g4⟩ := hb.f
  obtain ⟨k0, k1, k2, k3, k4, k5, k6⟩ := ha
  obtain ⟨l0, l1, l2, l3, l4, l5, l6⟩ := hb
  refine Cl_of mb_X0_copy (by show 2 ≤ 2; decide) (sg_X0_copy_0 ⟨l0, k0, fun m1 e1 m2 e2 m3 e3 => ?_⟩)
  obtain ⟨E, q0, hE, v0, v1, v2⟩ : ∃ E : DD, m3 = (E, ρ) ∧ Fr (fun q _ => q = a) D E ∧ E a 0 = D b 0 ∧ E a 1 = D b 1 ∧ E a 2 = D b 2 := by
    refine ⟨wr (wr (wr D a 0 (D b 0)) a 1 (wr D a 0 (D b 0) b 1)) a 2 (wr (wr D a 0 (D b 0)) a 1 (wr D a 0 (D b 0) b 1) b 2), by rw [e3, e2, e1]; rfl, ((Fr.refl.wr rfl).wr rfl).wr rfl, ?_, ?_, ?_⟩
    · rw [wr_j (by decide), wr_j (by decide), wr_at]
    · rw [wr_j (by decide), wr_at, wr_o (by omega)]
    · rw [wr_at, wr_o (by omega), wr_o (by omega)]
  subst q0
  have n1 : (mN (E, ρ) (mR (E, ρ) a 3) : Int) = 7 := by show ((rN ρ (rR ρ a 3) : Nat) : Int) = 7; rw [f3]; rfl
  have n2 : (mN (E, ρ) (mR (E, ρ) b 3) : Int) = 7 := by show ((rN ρ (rR ρ b 3) : Nat) : Int) = 7; rw [g3]; rfl
  refine ⟨ka f1, g1, f1, by decide, by decide, by omega, by omega, by omega, ?_⟩
  rintro m4 rfl
  rw [n1, sCp_mk hX, show mR (E, ρ) b 3 = b + 1 from l1, show mR (E, ρ) a 3 = a + 1 from k1]
  have n3 : (mN (cpD E (b + 1) (a + 1) 7, ρ) (mR (cpD E (b + 1) (a + 1) 7, ρ) a 4) : Int) = 20 := by show ((rN ρ (rR ρ a 4) : Nat) : Int) = 20; rw [f4]; rfl
  have n4 : (mN (cpD E (b + 1) (a + 1) 7, ρ) (mR (cpD E (b + 1) (a + 1) 7, ρ) b 4) : Int) = 20 := by show ((rN ρ (rR ρ b 4) : Nat) : Int) = 20; rw [g4]; rfl
  refine ⟨ka f2, g2, f2, by decide, by decide, by omega, by omega, by omega, ?_⟩
  rintro m5 rfl
  rw [n3, sCp_mk hX, show mR (cpD E (b + 1) (a + 1) 7, ρ) b 4 = b + 2 from l2, show mR (cpD E (b + 1) (a + 1) 7, ρ) a 4 = a + 2 from k2]
  have q1 : ∀ (F : DD) (x y z : Nat) (n : Int), z ≠ y → cpD F x y n z = F z := fun F x y z n h => by funext k; exact if_neg (fun w => h w.1)
  refine ⟨rfl, _, rfl, ?_, ?_⟩
  · exact ((hE.mono (fun q j h => by omega)).trans (cpD_fr.mono (fun q j h => by omega))).trans (cpD_fr.mono (fun q j h => by omega))
  · unfold cupv
    rw [cpD_cut, q1 _ _ _ (a + 1) _ (by omega), cpD_cut, q1 _ _ _ (b + 2) _ (by omega), q1 _ _ _ a _ (by omega), q1 _ _ _ a _ (by omega), v0, v1, v2, hE.obj (fun j => by omega), hE.obj (fun j => by omega)]
theorem sR_30 {b : Nat} : sR (D, rho n1 W) 30 1 b = (D, rho n1 (uW W 9 b)) := by
  show (D, (fun o k => if o = 30 ∧ k = 1 then b else RF W o k), KT, NT n1, 0) = (D, RF (uW W 9 b), KT, NT n1, 0)
  rw [RF_u30_1]
theorem C_asItIs (hm : MP D W) : Cl (d + 2) 0 0 mX9_asItIs [vr 4] (D, rho n1 W) (KR (fun r m => r = 30 ∧ ∃ (D' : DD) (W' : Nat → Nat), m = (D', rho n1 W') ∧ TRd D W D' W')) := by
  refine Cl_of mb_X9_asItIs (by show 1 ≤ 1; decide) (sg_X9_asItIs_0 ⟨rfl, rfl, rfl, cV (C_cupcopy (D := D) (a := 31) (b := 5) rfl cup31 cup5 (by omega)) ?_⟩)
  rintro m1 ⟨E, rfl, hF, hv⟩
  have hA : AF D W E W := ⟨hF.mono (fun q j h => by unfold aF; omega), fun _ _ => rfl⟩
  have e6 : mD (E, rho n1 W) (mR (E, rho n1 W) (mR (E, rho n1 W) 4 0) 3) 6 = cSet (cupv D 5) 6 := by
    show E 6 6 = cut 7 (D 6) 6
    rw [cut_in (by decide) (by decide), hF 6 6 (by omega)]
  refine ⟨rfl, rfl, Or.inl rfl, bnd (N := 7) rfl (by decide) (by decide), cR (C_toldLaw (hA.mp hm)) ?_⟩
  rintro b m2 ⟨hb, rfl⟩
  refine ⟨rfl, fun m3 e3 => ?_⟩
  have e3 : m3 = (E, rho n1 (uW W 9 b)) := by rw [e3]; exact sR_30
  subst e3
  refine ⟨rfl, _, rfl, rfl, E, uW W 9 b, rfl, ⟨hA.1, fun i hi => uW_ne hi⟩, hv, ?_⟩
  rw [uW_at, hb, e6, hA.tl hm]
end HM
