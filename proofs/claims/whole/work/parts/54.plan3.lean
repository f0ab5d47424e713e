/-! ===== the soonest row of WALKS, 3; one frame for all calls that ask how it would be ===== -/
def gF (w : Nat) (q : Nat) (j : Int) : Prop := aF q j ∨ tlF q j ∨ wF w q j ∨ (45 ≤ q ∧ q ≤ 91)
def WhG (n1 : Nat) (D : DD) (W : Nat → Nat) (S : Int × Option (List Int)) (r : Int) (m : Mem) : Prop := ∃ (D' : DD) (W' : Nat → Nat), m = (D', rho n1 W') ∧ Fr (gF (W 4)) D D' ∧ (∀ i, i < 9 → W' i = W i) ∧ (0 ≤ D' (W 4) 4 ∧ D' (W 4) 4 ≤ 1000) ∧ r = S.1 ∧ TV D' = tvn S.2 (TV D)
theorem Wh.G {n1 : Nat} {D : DD} {W : Nat → Nat} {S : Int × Option (List Int)} (hm : MP D W) : ∀ r m, Wh n1 D W S r m → WhG n1 D W S r m := by
  rintro r m ⟨D', W', rfl, ⟨h1, h2⟩, h3, h4⟩
  have hw := hm.2.1 4 (by decide)
  refine ⟨D', W', rfl, h1.mono (fun q j h => h.elim Or.inl (fun z => Or.inr (Or.inl z))), fun i hi => h2 i (by omega), ?_, h3, h4⟩
  rw [h1 (W 4) 4 (by unfold aF tlF; unfold walkId at hw; omega)]
  exact hm.2.2.2 4 (by decide)
theorem Wh2.G {n1 : Nat} {D : DD} {W : Nat → Nat} {S : Int × Option (List Int)} : ∀ r m, Wh2 n1 D W S r m → WhG n1 D W S r m := by
  rintro r m ⟨D', W', rfl, h1, h2, h3, h4, h5⟩
  exact ⟨D', W', rfl, h1.mono (fun q j h => h.elim (fun z => z.elim Or.inl (fun y => Or.inr (Or.inr (Or.inl y)))) (fun z => Or.inr (Or.inl z))), fun i hi => h2 i (by omega), h3, h4, h5⟩
theorem S_plan_ext {c : Cv} {L : Option (List Int)} {ws ws' : Int → Wv} {mets mets' : Int → Int} {goal : Int} (e1 : ∀ a, 0 ≤ a → a ≤ 3 → ws a = ws' a) (e2 : ∀ a, 0 ≤ a → a ≤ 3 → mets a = mets' a) : S_plan c L ws mets goal = S_plan c L ws' mets' goal := by
  unfold S_plan
  rw [zext_ext e1 e2]
section PLN3
variable {d n1 : Nat} {W : Nat → Nat} {D : DD}
theorem sR_45_1 {b : Nat} : sR (D, rho n1 W) 45 1 b = (D, rho n1 (uW W 11 b)) := by
  show (D, (fun o k => if o = 45 ∧ k = 1 then b else RF W o k), KT, NT n1, 0) = (D, RF (uW W 11 b), KT, NT n1, 0)
  rw [RF_u45_1]
theorem C_pbegin {l : Nat} {goal : Int} : Cl (d + 3) 0 0 mX3_begin [vr 45, vr 5, vr l, vi goal] (D, rho n1 W) (KV (fun m => ∃ D', m = (D', rho n1 (uW W 11 l)) ∧ Fr (fun q j => (q = 45 ∧ (j = 4 ∨ j = 6 ∨ j = 7)) ∨ (46 ≤ q ∧ q ≤ 48) ∨ (52 ≤ q ∧ q ≤ 59)) D D' ∧ cupv D' 46 = cupv D 5 ∧ D' 45 4 = goal ∧ D' 45 6 = 0 ∧ D' 45 7 = 2147483647 ∧ SimS (stv D' 52) (zS (zbeg0 (cupv D 5) 1)))) := by
  refine Cl_of mb_X3_begin (Nat.le_of_ble_eq_true rfl) (sg_X3_begin_0 ⟨rfl, rfl, cV (C_cupcopy (D := D) (a := 46) (b := 5) rfl cup46 cup5 (by omega)) ?_⟩)
  rintro m1 ⟨C, rfl, hC, hc⟩
  refine ⟨rfl, fun m2 e2 => ?_⟩
  have e2 : m2 = (C, rho n1 (uW W 11 l)) := e2.trans sR_45_1
  subst e2
  generalize uW W 11 l = V
  refine ⟨rfl, fun m3 e3 m4 e4 m5 e5 => ?_⟩
  obtain ⟨E, q0, hE, a6, a8, a9⟩ : ∃ E : DD, m5 = (E, rho n1 V) ∧ Fr (fun q j => q = 45 ∧ (j = 4 ∨ j = 6 ∨ j = 7)) C E ∧ E 45 4 = goal ∧ E 45 6 = 0 ∧ E 45 7 = 2147483647 := by
    refine ⟨wr (wr (wr C 45 4 goal) 45 6 0) 45 7 2147483647, by rw [e5, e4, e3]; rfl, ((Fr.refl.wr ⟨rfl, Or.inl rfl⟩).wr ⟨rfl, Or.inr (Or.inl rfl)⟩).wr ⟨rfl, Or.inr (Or.inr rfl)⟩, ?_, ?_, wr_at⟩
    · rw [wr_j (by decide), wr_j (by decide), wr_at]
    · rw [wr_j (by decide), wr_at]
  subst q0
  have s52 := sSt_of (n1 := n1) (W := V) (o := 52) (by unfold stId; omega)
  refine ⟨rfl, bnd (N := 5) rfl (by decide) (by decide), rfl, cV (C_sfresh (D := E) (o := 52) (c := 46) s52 cup46 (by omega)) ?_⟩
  rintro m6 ⟨G, rfl, h1, v1⟩
  have cE : cupv E 46 = cupv D 5 := (cupv_fr hE (fun q j a b => by omega)).trans hc
  refine ⟨rfl, rfl, bnd (N := 5) rfl (by decide) (by decide), rfl, fun m7 e7 => ⟨rfl, wr G 52 1 1, e7, ?_, ?_, ?_, ?_, ?_, ?_⟩⟩
  · exact (((hC.mono (fun q j h => Or.inr (Or.inl ⟨by omega, by omega⟩))).trans (hE.mono (fun q j h => Or.inl h))).trans (h1.mono (fun q j h => Or.inr (Or.inr ⟨by omega, by omega⟩)))).wr (Or.inr (Or.inr ⟨by decide, by decide⟩))
  · have hK : Fr (fun q j => q = 52 ∧ j = 1) G (wr G 52 1 1) := Fr.refl.wr ⟨rfl, rfl⟩
    rw [cupv_fr hK (fun q j a b => by omega), cupv_fr h1 (fun q j a b => by omega), cE]
  · rw [wr_o (by decide), h1 45 4 (by omega), a6]
  · rw [wr_o (by decide), h1 45 6 (by omega), a8]
  · rw [wr_o (by decide), h1 45 7 (by omega), a9]
  · have hK : Fr (fun q j => q = 52 ∧ j = 1) G (wr G 52 1 1) := Fr.refl.wr ⟨rfl, rfl⟩
    have s1 : stv (wr G 52 1 1) 52 = (G 52 0, 1, (stv G 52).2.2) := by
      unfold stv
      rw [rowv_fr hK (fun q j a b => by omega), rowv_fr hK (fun q j a b => by omega), hK.obj (o := 52 + 7) (fun j => by omega), wr_at, wr_j (by decide)]
    have e2 : G 52 0 = 0 := congrArg Prod.fst v1
    rw [s1, v1, e2, cE]
    exact ⟨rfl, rfl, rfl, rfl, fun k a _ b => absurd (show k < 0 from b) (by omega)⟩
theorem C_plan {goal : Int} (hm : MP D W) (hmets : ∀ j, 0 ≤ j → j < 4 → 0 ≤ D 20 j ∧ D 20 j ≤ 99) : Cl (d + 11) 0 0 mX9_plan [vr 4, vi goal] (D, rho n1 W) (KI (WhG n1 D W (S_plan (cupv D 5) (hcode D W) (wsv D W) (D 20) goal))) := by
  have hw4 := hm.2.1 4 (by decide)
  refine Cl_of mb_X9_plan (Nat.le_of_ble_eq_true rfl) (sg_X9_plan_0 (cB C_isIn (fun hy => yN ⟨rfl, rfl, Or.inl rfl, bnd (N := 7) rfl (by decide) (by decide), cR (C_toldLaw hm) ?_⟩) (fun hy => nN ⟨_, rfl, Wh.G hm _ _ (Wh_no AF.refl ?_ ?_)⟩)))
  rotate_left
  · unfold S_plan
    rw [if_neg hy]
  · unfold S_plan
    rw [if_neg hy]
  rintro l m1 ⟨hl, rfl⟩
  have hl : l = tlaw D W (cSet (cupv D 5) 6) := by
    rw [hl]
    show tlaw D W (D 6 6) = tlaw D W (cut 7 (D (5 + 1)) 6)
    rw [cut_in (by decide) (by decide)]
  have hcd : lawO D l = hcode D W := by rw [hl]; rfl
  refine ⟨rfl, cV (C_pbegin (D := D) (l := l)) ?_⟩
  rintro m2 ⟨E, rfl, a1, cE, a6, a8, a9, asim⟩
  generalize eV : uW W 11 l = V
  have hV : ∀ i, i < 9 → V i = W i := fun i hi => by rw [← eV, uW_ne (by omega)]
  have v11 : V 11 = l := by rw [← eV, uW_at]
  have lid : l = 0 ∨ lawId l := by rw [hl]; exact tlaw_id hm
  have lE : lawO E l = lawO D l := by
    rcases lid with e | e
    · unfold lawO
      rw [if_pos e, if_pos e]
    · exact lawO_fr a1 (fun j => by unfold lawId at e; omega)
  have hX : EXP E V := by
    refine ⟨by rw [cE]; exact hm.1, by rw [v11]; exact lid, fun i hi => ?_, fun j j0 j1 => by rw [a1 20 j (by omega)]; exact hmets j j0 j1⟩
    have hw := hm.2.1 i (by omega)
    rw [hV i (by omega), a1 (W i) 4 (by unfold walkId at hw; omega)]
    exact ⟨hw, hm.2.2.2 i (by omega)⟩
  have e0 : stv E (52 + 8 * (0 : Int).toNat) = stv E 52 := rfl
  refine ⟨rfl, cV (K := fun m => ∃ D', m = (D', rho n1 V) ∧ Fr (pF 0) E D' ∧ bstv D' = zext (cupv D 5) (hcode D W) (wsv D W) (D 20) goal 4 (zS (zbeg0 (cupv D 5) 1)) [] 0 0 (2147483647, []) ∧ (0 ≤ D' 45 6 ∧ D' 45 6 ≤ 4)) ?_ ?_⟩
  · have := C_extend (n1 := n1) (W := V) 4 (d := d) (D := E) (len := 0) (led := 0) (tk := 0) (s := zS (zbeg0 (cupv D 5) 1)) (row := []) hX (by decide) (by decide) (lst_0 (by decide)) (by rw [e0]; exact asim) (zbeg0_ok hm.1).1 rfl (by decide) (by decide) (by decide) (by rw [a8]; decide)
    have hb : bstv E = (2147483647, []) := by
      unfold bstv
      rw [a9, a8, lst_0 (by decide)]
    rw [cE, v11, lE, hcd, a6, hb] at this
    refine Cl.weak (KV.weak ?_) this
    rintro m ⟨D', q1, q2, q3, q4⟩
    refine ⟨D', q1, q2, ?_, q4⟩
    rw [q3]
    refine zext_ext (fun a a0 a1' => ?_) (fun a _ _ => a1 20 a (by omega))
    have hw := hm.2.1 a.toNat (by omega)
    unfold wsv
    rw [hV a.toNat (by omega)]
    exact wkv_fr a1 (fun q j x y => by unfold walkId at hw; omega)
  rintro m3 ⟨G, rfl, b1, b2, b3⟩
  have hFG : Fr (gF (W 4)) D G := (a1.mono (fun q j h => by unfold gF; omega)).trans (b1.mono (fun q j h => by unfold pF at h; unfold gF aF; omega))
  have tG : G (W 4) 4 = D (W 4) 4 := by
    rw [b1 (W 4) 4 (by unfold pF; unfold walkId at hw4; omega), a1 (W 4) 4 (by unfold walkId at hw4; omega)]
  have tvG : TV G = TV D := by
    unfold TV toldv
    rw [b1.obj (o := 98) (fun j => by unfold pF; omega), a1.obj (o := 98) (fun j => by omega), b1 4 16 (by unfold pF; omega), a1 4 16 (by omega)]
  have hS : S_plan (cupv D 5) (hcode D W) (wsv D W) (D 20) goal = if (bstv G).2 = [] then (-2, none) else ((bstv G).1, some (bstv G).2) := by
    unfold S_plan
    rw [if_pos hy, b2]
  generalize S_plan (cupv D 5) (hcode D W) (wsv D W) (D 20) goal = S at hS ⊢
  refine ⟨rfl, rfl, fun c m5 e5 => ?_, fun c => ⟨_, rfl, G, V, rfl, hFG, hV, by rw [tG]; exact hm.2.2.2 4 (by decide), ?_, ?_⟩⟩
  rotate_left
  · change G 45 6 = 0 at c
    rw [hS, if_pos (show (bstv G).2 = [] from by show lst (G 51) (G 45 6) = []; rw [c]; exact lst_0 (by decide))]
  · change G 45 6 = 0 at c
    rw [hS, if_pos (show (bstv G).2 = [] from by show lst (G 51) (G 45 6) = []; rw [c]; exact lst_0 (by decide)), tvG]
    rfl
  change ¬ G 45 6 = 0 at c
  have hne : ¬ (bstv G).2 = [] := fun z => by
    have z : lst (G 51) (G 45 6) = [] := z
    have := congrArg List.length z
    rw [lst_len] at this
    have h0 : ([] : List Int).length = 0 := rfl
    omega
  rw [if_neg hne] at hS
  have e5 : m5 = (wr G 4 16 0, rho n1 V) := e5
  subst e5
  refine Wp.loop (σ := Int) (fun i => [some (vr 4), some (vi goal), some (vi i)])
    (fun i μ => ∃ H : DD, μ = (H, rho n1 V) ∧ Fr tlF G H ∧ 0 ≤ i ∧ i ≤ G 45 6 ∧ H 4 16 = i ∧ toldv H = lst (G 51) i)
    (fun i => (G 45 6 - i).toNat) ?_ 0 _ ⟨wr G 4 16 0, rfl, Fr.refl.wr (by unfold tlF; omega), Int.le_refl _, b3.1, wr_at, ?_⟩
  rotate_left
  · unfold toldv
    rw [wr_at, lst_0 (by decide), lst_0 (by decide)]
  rintro i μ ⟨H, rfl, hH, i0, i1, h16, hv⟩ ih
  have h8 : H 45 6 = G 45 6 := hH 45 6 (by unfold tlF; omega)
  have h9 : H 45 7 = G 45 7 := hH 45 7 (by unfold tlF; omega)
  have h48 : H 51 = G 51 := hH.obj (fun j => by unfold tlF; omega)
  refine sg_X9_plan_77 ⟨rfl, rfl, fun c2 => ⟨_, rfl, H, V, rfl, hFG.trans (hH.mono (fun q j h => Or.inr (Or.inl h))), hV, ?_, ?_, ?_⟩, fun c2 => ⟨ka rfl, fun c3 => absurd c3 ?_, fun _ => ⟨Or.inl rfl, ?_, cV (C_tellMore (D := H) ?_ ?_) ?_⟩⟩⟩
  · rw [hH (W 4) 4 (by unfold tlF; unfold walkId at hw4; omega), tG]
    exact hm.2.2.2 4 (by decide)
  · rw [hS]
    exact h9
  · change H 45 6 ≤ i at c2
    rw [hS]
    show (toldv H, H 4 16) = (lst (G 51) (G 45 6), ((lst (G 51) (G 45 6)).length : Int))
    rw [hv, h16, lst_len, show i = G 45 6 by omega, show (((G 45 6).toNat : Nat) : Int) = G 45 6 by omega]
  · change ¬ H 45 6 ≤ i at c2
    show ¬ ((4 : Nat) : Int) ≤ i
    omega
  · change ¬ H 45 6 ≤ i at c2
    exact bnd (N := 4) rfl i0 (by omega)
  · rw [h16]
    exact i0
  · change ¬ H 45 6 ≤ i at c2
    omega
  · change ¬ H 45 6 ≤ i at c2
    rintro m6 ⟨H2, rfl, k1, k2, k3⟩ v e
    rw [w32_id (by omega) (by omega)] at e
    subst e
    refine ih (i + 1) _ ⟨H2, rfl, hH.trans k1, by omega, by omega, by rw [k2, h16], ?_⟩ (by omega)
    rw [k3, hv, lst_s i0]
    show _ ++ [H 51 i] = _
    rw [h48]
end PLN3
