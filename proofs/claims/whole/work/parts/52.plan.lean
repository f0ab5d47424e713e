/-! ===== the soonest row of WALKS ===== -/
def zgo0 (s : Sv) : Zr := (s, 0, -1, 0, 0, [])
def zgo (c : Cv) (L : Option (List Int)) (w : Wv) (s : Sv) : Zr := zrun 1040 c L w (fun _ => 0) (wTicks w).toNat 0 (zgo0 s)
abbrev Bst : Type := Int × List Int
def zlp (step : Int → Bst → Bst) : Nat → Bst → Bst
  | 0, b => b
  | n + 1, b => step n (zlp step n b)
def zst1 (c : Cv) (L : Option (List Int)) (ws : Int → Wv) (mets : Int → Int) (goal : Int) (rec : Sv → List Int → Int → Int → Bst → Bst) (s : Sv) (row : List Int) (led tk : Int) (i : Int) (b : Bst) : Bst :=
  if mets i = 0 then b else if b.1 ≤ tk + wTicks (ws i) then b else if zSum (zgo c L (ws i) s) = 0 then
    (if goal ≤ led + mets i then (tk + wTicks (ws i), row ++ [i]) else rec (zS (zgo c L (ws i) s)) (row ++ [i]) (led + mets i) (tk + wTicks (ws i)) b) else b
def zext (c : Cv) (L : Option (List Int)) (ws : Int → Wv) (mets : Int → Int) (goal : Int) : Nat → Sv → List Int → Int → Int → Bst → Bst
  | 0, _, _, _, _, b => b
  | f + 1, s, row, led, tk, b => zlp (zst1 c L ws mets goal (zext c L ws mets goal f) s row led tk) 4 b
def S_plan (c : Cv) (L : Option (List Int)) (ws : Int → Wv) (mets : Int → Int) (goal : Int) : Int × Option (List Int) :=
  if 1 ≤ goal ∧ goal ≤ 400 then
    (if (zext c L ws mets goal 4 (zS (zbeg0 c 1)) [] 0 0 (2147483647, [])).2 = [] then (-2, none)
     else ((zext c L ws mets goal 4 (zS (zbeg0 c 1)) [] 0 0 (2147483647, [])).1, some (zext c L ws mets goal 4 (zS (zbeg0 c 1)) [] 0 0 (2147483647, [])).2)) else (-1, none)
/-- what the Planner changes, so many WALKS deep -/
def pF (len : Int) (q : Nat) (j : Int) : Prop := (q = 45 ∧ (j = 6 ∨ j = 7)) ∨ (q = 50 ∧ len ≤ j) ∨ q = 51 ∨ (60 + 8 * len ≤ q ∧ q ≤ 91) ∨ q = 29 ∨ q = 145 ∨ q = 148 ∨ q = 151
theorem RF_49 {W : Nat → Nat} {j : Int} (h0 : 0 ≤ j) (h1 : j < 5) : RF W 49 j = 52 + 8 * j.toNat := by
  have e : RF W 49 j = (if 0 ≤ j ∧ j < 5 then 52 + 8 * j.toNat else 0) := rfl
  rw [e, if_pos ⟨h0, h1⟩]
def bstv (D : DD) : Bst := (D 45 7, lst (D 51) (D 45 6))
section PLN
variable {d n1 : Nat} {W : Nat → Nat} {D : DD}
theorem cup46 : SCup (rho n1 W) 46 := ⟨rfl, rfl, rfl, rfl, rfl, rfl, rfl⟩
theorem C_carries {len : Int} {w : Nat} {s : Sv} (hc : COK (cupv D 46)) (hl : W 11 = 0 ∨ lawId (W 11)) (hw : walkId w) (t0 : 0 ≤ D w 4) (t1 : D w 4 ≤ 1000) (l0 : 0 ≤ len) (l1 : len < 4) (hs : SimS (stv D (52 + 8 * len.toNat)) s) (hk : SOK s) (tk : sTick s ≤ 10000) :
    Cl (d + 5) 0 0 mX3_carries [vr 45, vi len, vr w] (D, rho n1 W) (KI (fun r m => ∃ D', m = (D', rho n1 W) ∧ Fr (fun q _ => (60 + 8 * len ≤ q ∧ q ≤ 67 + 8 * len) ∨ q = 29 ∨ q = 145 ∨ q = 148 ∨ q = 151) D D' ∧ r = bi (zSum (zgo (cupv D 46) (lawO D (W 11)) (wkv D w) s) = 0) ∧
      (zSum (zgo (cupv D 46) (lawO D (W 11)) (wkv D w) s) = 0 → SimS (stv D' (60 + 8 * len.toNat)) (zS (zgo (cupv D 46) (lawO D (W 11)) (wkv D w) s))))) := by
  have so := sSt_of (n1 := n1) (W := W) (o := 52 + 8 * len.toNat) (by unfold stId; omega)
  have sn := sSt_of (n1 := n1) (W := W) (o := 60 + 8 * len.toNat) (by unfold stId; omega)
  have w1 : w32 (len + 1) = len + 1 := w32_id (by omega) (by omega)
  have rn : ∀ E : DD, mR (E, rho n1 W) (mR (E, rho n1 W) 45 2) (len + 1) = 60 + 8 * len.toNat := fun E => by
    have := RF_49 (W := W) (j := len + 1) (by omega) (by omega)
    rw [show 52 + 8 * (len + 1).toNat = 60 + 8 * len.toNat by omega] at this
    exact this
  have ro : ∀ E : DD, mR (E, rho n1 W) (mR (E, rho n1 W) 45 2) len = 52 + 8 * len.toNat := fun E => RF_49 (W := W) l0 (by omega)
  refine Cl_of mb_X3_carries (Nat.le_of_ble_eq_true rfl) (sg_X3_carries_0 (cB C_isIn (fun hy => yN ⟨rfl, rfl, ?_⟩) (fun hy => absurd ⟨l0, by omega⟩ hy)))
  rw [w1, rn, ro]
  refine ⟨bnd (N := 5) rfl (by omega) (by omega), bnd (N := 5) rfl l0 (by omega), sn.1, cV (C_scopy (D := D) (ρ := rho n1 W) rfl sn so (by omega)) ?_⟩
  rintro m1 ⟨E, rfl, h1, v1⟩
  have hcl : 1 ≤ D 46 0 ∧ D 46 0 ≤ 19 := ⟨hc.1, hc.2.1⟩
  have hlate : 0 ≤ D 47 5 ∧ D 47 5 ≤ 20 := by
    have s5 := hc.late
    have e : cSet (cupv D 46) 5 = D 47 5 := cut_in (n := 7) (f := D 47) (k := 5) (by decide) (by decide)
    rw [e] at s5
    exact s5
  have hz : ZOK (zgo0 s) := ⟨hk, Int.le_refl 0⟩
  have hph := fun (n : Nat) (hn : n ≤ 1000) => zrun_phys (cap := 1040) (c := cupv D 46) (L := lawO D (W 11)) (w := wkv D w) (t := fun _ => 0) hc (n := n) (i := 0) hz (by show (0 : Int) + _ < _; omega) (by show sTick s + _ < _; omega)
  have e0 : ∀ n : Nat, zSum (zrun 1040 (cupv D 46) (lawO D (W 11)) (wkv D w) (fun _ => 0) n 0 (zgo0 s)) = zSum (zrun 1040 (cupv D 46) (lawO D (W 11)) (wkv D w) (fun _ => 0) n 0 (zgo0 s)) := fun _ => rfl
  refine Wp.loop (σ := Int) (fun i => [some (vr 45), some (vi len), some (vr w), some (vr (60 + 8 * len.toNat)), some (vi i)])
    (fun i μ => ∃ G : DD, μ = (G, rho n1 W) ∧ Fr (fun q _ => (60 + 8 * len ≤ q ∧ q ≤ 67 + 8 * len) ∨ q = 29 ∨ q = 145 ∨ q = 148 ∨ q = 151) D G ∧ 0 ≤ i ∧ i ≤ D w 4 ∧ zSum (zrun 1040 (cupv D 46) (lawO D (W 11)) (wkv D w) (fun _ => 0) i.toNat 0 (zgo0 s)) = 0 ∧ SimS (stv G (60 + 8 * len.toNat)) (zS (zrun 1040 (cupv D 46) (lawO D (W 11)) (wkv D w) (fun _ => 0) i.toNat 0 (zgo0 s))))
    (fun i => (D w 4 - i).toNat) ?_ 0 _ ⟨E, rfl, h1.mono (fun q j h => by omega), Int.le_refl _, t0, rfl, by rw [v1]; exact hs⟩
  rintro i μ ⟨G, rfl, hF, i0, i1, hsum, hsim⟩ ih
  have gw : G w 4 = D w 4 := hF w 4 (by unfold walkId at hw; omega)
  have cG : cupv G 46 = cupv D 46 := cupv_fr hF (fun q j a b => by omega)
  have lG : lawO G (W 11) = lawO D (W 11) := by
    rcases hl with e | e
    · unfold lawO
      rw [if_pos e, if_pos e]
    · exact lawO_fr hF (fun j => by unfold lawId at e; omega)
  have wG : wkv G w = wkv D w := wkv_fr hF (fun q j a b => by unfold walkId at hw; omega)
  have q5 : G 46 0 = D 46 0 := hF 46 0 (by omega)
  have q6 : G 47 5 = D 47 5 := hF 47 5 (by omega)
  refine sg_X3_carries_33 ⟨(sWk_of (n1 := n1) (W := W) hw).1, fun c => ⟨_, rfl, G, rfl, hF, ?_, ?_⟩, fun c => ⟨rfl, sn.1, ?_⟩⟩
  · change G w 4 ≤ i at c
    have ei : i.toNat = (wTicks (wkv D w)).toNat := by show i.toNat = (D w 4).toNat; omega
    rw [ei] at hsum
    exact (bi_1 hsum).symm
  · change G w 4 ≤ i at c
    have ei : i.toNat = (wTicks (wkv D w)).toNat := by show i.toNat = (D w 4).toNat; omega
    rw [ei] at hsim
    exact fun _ => hsim
  · change ¬ G w 4 ≤ i at c
    rw [show mR (G, rho n1 W) 45 0 = 46 from rfl, show mR (G, rho n1 W) 45 1 = W 11 from rfl]
    obtain ⟨a0, a1, a2, a3⟩ := hph i.toNat (by omega)
    have t9 : 0 ≤ G (60 + 8 * len.toNat) 0 := by
      have := hsim.1
      change G (60 + 8 * len.toNat) 0 = _ at this
      rw [this]
      exact a0.1.2.2
    refine cI (C_carry (D := G) (o := 60 + 8 * len.toNat) (c := 46) (l := W 11) (w := w) sn cup46 (hl.imp id sLaw_of) (sWk_of hw) (by rw [q5]; exact hcl.1) (by rw [q5]; exact hcl.2) t9 (by rw [q6]; exact hlate.1) (by rw [q6]; exact hlate.2)
      i0 (by omega) (by rw [gw]; exact t1) (by omega) (by unfold walkId at hw; omega) (hl.imp id (fun h => by unfold lawId at h; unfold walkId at hw; omega))) ?_
    rintro x m2 ⟨H, rfl, h2, c2⟩
    rw [cG, lG, wG] at c2
    have et : sTick (stv G (60 + 8 * len.toNat)) = sTick s + (i.toNat : Int) := by rw [hsim.1]; exact a3
    obtain ⟨b1, b2⟩ := hsim.carry (c := cupv D 46) (L := lawO D (W 11)) (w := wkv D w) (i := i) (t := 0) t9 (by rw [et]; omega) hc.late.1 hc.late.2
    rw [← c2] at b1 b2
    have hzs : zrun 1040 (cupv D 46) (lawO D (W 11)) (wkv D w) (fun _ => 0) (i + 1).toNat 0 (zgo0 s) = znote 1040 (cupv D 46) (zcarry (cupv D 46) (lawO D (W 11)) (wkv D w) i 0 (zS (zrun 1040 (cupv D 46) (lawO D (W 11)) (wkv D w) (fun _ => 0) i.toNat 0 (zgo0 s)))) (zrun 1040 (cupv D 46) (lawO D (W 11)) (wkv D w) (fun _ => 0) i.toNat 0 (zgo0 s)) := by
      rw [show (i + 1).toNat = i.toNat + 1 by omega, zrun_l, show (0 : Int) + (i.toNat : Int) = i by omega]
    obtain ⟨y0, y1, y2, -⟩ := zcarry_phys (L := lawO D (W 11)) (w := wkv D w) (i := i) (t := 0) hc a0.1 (by rw [a3]; show sTick s + _ < _; omega)
    have hsum1 : zSum (zrun 1040 (cupv D 46) (lawO D (W 11)) (wkv D w) (fun _ => 0) (i + 1).toNat 0 (zgo0 s)) = x := by
      rw [hzs]
      show w32 (zSum _ + _) = x
      rw [hsum, ← b1, Int.zero_add, w32_id (by omega) (by omega)]
    have hF2 : Fr (fun q _ => (60 + 8 * len ≤ q ∧ q ≤ 67 + 8 * len) ∨ q = 29 ∨ q = 145 ∨ q = 148 ∨ q = 151) D H := hF.trans (h2.mono (fun q j h => by
      rcases h with h | h
      · omega
      · rcases hl with z | z
        · exact absurd z h.1
        · unfold lawId at z; omega))
    refine ⟨fun c3 v e => ?_, fun c3 => ⟨_, rfl, H, rfl, hF2, ?_, ?_⟩⟩
    · rw [w32_id (by omega) (by omega)] at e
      subst e
      refine ih (i + 1) _ ⟨H, rfl, hF2, by omega, by omega, by rw [hsum1]; omega, ?_⟩ (by omega)
      rw [hzs]
      exact b2
    · rw [bi_0]
      intro z
      have := (zrun_add (cap := 1040) (c := cupv D 46) (L := lawO D (W 11)) (w := wkv D w) (t := fun _ => 0) (n := (i + 1).toNat) (m := (D w 4 - (i + 1)).toNat) (i := 0) (z := zgo0 s))
      rw [show (i + 1).toNat + (D w 4 - (i + 1)).toNat = (D w 4).toNat by omega] at this
      have z : zSum (zrun 1040 (cupv D 46) (lawO D (W 11)) (wkv D w) (fun _ => 0) (D w 4).toNat 0 (zgo0 s)) = 0 := z
      rw [this] at z
      obtain ⟨g0, g1, g2, g3⟩ := hph (i + 1).toNat (by omega)
      have g2 : _ ≤ (0 : Int) + 80000 * ((i + 1).toNat : Int) := g2
      have g3 : _ = sTick s + ((i + 1).toNat : Int) := g3
      obtain ⟨-, k1, -⟩ := zrun_phys (cap := 1040) (L := lawO D (W 11)) (w := wkv D w) (t := fun _ => 0) hc (n := (D w 4 - (i + 1)).toNat) (i := 0 + ((i + 1).toNat : Int)) g0 (by omega) (by omega)
      rw [hsum1, z] at k1
      omega
    · intro z
      have := (zrun_add (cap := 1040) (c := cupv D 46) (L := lawO D (W 11)) (w := wkv D w) (t := fun _ => 0) (n := (i + 1).toNat) (m := (D w 4 - (i + 1)).toNat) (i := 0) (z := zgo0 s))
      rw [show (i + 1).toNat + (D w 4 - (i + 1)).toNat = (D w 4).toNat by omega] at this
      have z : zSum (zrun 1040 (cupv D 46) (lawO D (W 11)) (wkv D w) (fun _ => 0) (D w 4).toNat 0 (zgo0 s)) = 0 := z
      rw [this] at z
      obtain ⟨g0, g1, g2, g3⟩ := hph (i + 1).toNat (by omega)
      have g2 : _ ≤ (0 : Int) + 80000 * ((i + 1).toNat : Int) := g2
      have g3 : _ = sTick s + ((i + 1).toNat : Int) := g3
      obtain ⟨-, k1, -⟩ := zrun_phys (cap := 1040) (L := lawO D (W 11)) (w := wkv D w) (t := fun _ => 0) hc (n := (D w 4 - (i + 1)).toNat) (i := 0 + ((i + 1).toNat : Int)) g0 (by omega) (by omega)
      rw [hsum1, z] at k1
      omega
theorem C_noteBest {len tk : Int} (l0 : 0 ≤ len) (l1 : len ≤ 4) : Cl d 0 0 mX3_noteBest [vr 45, vi len, vi tk] (D, rho n1 W) (KV (fun m => ∃ D', m = (D', rho n1 W) ∧ Fr (fun q j => (q = 45 ∧ (j = 6 ∨ j = 7)) ∨ q = 51) D D' ∧ bstv D' = (tk, lst (D 50) len))) := by
  refine Cl_of mb_X3_noteBest (Nat.le_of_ble_eq_true rfl) (sg_X3_noteBest_0 ⟨rfl, fun m1 e1 m2 e2 => ?_⟩)
  obtain ⟨E, q0, hE, e8, e9⟩ : ∃ E : DD, m2 = (E, rho n1 W) ∧ Fr (fun q j => q = 45 ∧ (j = 6 ∨ j = 7)) D E ∧ E 45 6 = len ∧ E 45 7 = tk := by
    refine ⟨wr (wr D 45 6 len) 45 7 tk, by rw [e2, e1]; rfl, (Fr.refl.wr ⟨rfl, Or.inl rfl⟩).wr ⟨rfl, Or.inr rfl⟩, ?_, wr_at⟩
    rw [wr_j (by decide), wr_at]
  subst q0
  refine ⟨ka rfl, rfl, rfl, by decide, by decide, Int.natCast_nonneg _, by show (0 : Int) + ((4 : Nat) : Int) ≤ ((4 : Nat) : Int); decide, by show (0 : Int) + ((4 : Nat) : Int) ≤ ((4 : Nat) : Int); decide, fun m3 e3 => ?_⟩
  have e3 : m3 = (cpD E 50 51 ((4 : Nat) : Int), rho n1 W) := e3.trans (sCp_mk (D := E) (ρ := rho n1 W) (a := 50) (b := 51) (n := ((4 : Nat) : Int)) rfl)
  refine ⟨rfl, _, e3, (hE.mono (fun q j h => Or.inl h)).trans (cpD_fr.mono (fun q j h => Or.inr h)), ?_⟩
  have q1 : cpD E 50 51 ((4 : Nat) : Int) 45 = E 45 := by funext k; exact if_neg (fun z => absurd z.1 (by decide))
  unfold bstv
  rw [q1, e8, e9]
  refine Prod.ext rfl (lst_ext (fun k k0 k1 => ?_))
  have := cut_eq (cpD_cut (D := E) (a := 50) (b := 51) (n := ((4 : Nat) : Int))) k0 (by show k < 4; omega)
  rw [this, hE.obj (o := 50) (fun j => by omega)]
theorem C_choose {len i : Int} (l0 : 0 ≤ len) (l1 : len < 4) : Cl (d + 1) 0 0 mX3_choose [vr 45, vi len, vi i] (D, rho n1 W) (KV (fun m => m = (wr D 50 len i, rho n1 W))) :=
  Cl_of mb_X3_choose (Nat.le_of_ble_eq_true rfl) (sg_X3_choose_0 (cB C_isIn (fun _ => ⟨fun c => absurd c (by decide), fun _ => ⟨rfl, rfl, bnd (N := 4) rfl l0 (by omega), fun m2 e2 => ⟨rfl, e2⟩⟩⟩) (fun hy => absurd ⟨l0, by omega⟩ hy)))
end PLN
