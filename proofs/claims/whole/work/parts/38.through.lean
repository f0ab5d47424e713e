/-! ===== the Trial's runs ===== -/
def TPre (D : DD) (W : Nat → Nat) (w : Nat) : Prop := COK (cupv D 31) ∧ (W 9 = 0 ∨ lawId (W 9)) ∧ walkId w ∧ 0 ≤ D w 4 ∧ D w 4 ≤ 1000
theorem TPre.fr {D D' : DD} {W : Nat → Nat} {w : Nat} (h : TPre D W w) (hF : Fr rF D D') : TPre D' W w := by
  obtain ⟨h1, h2, h3, h4, h5⟩ := h
  have e : D' w 4 = D w 4 := hF w 4 (by unfold rF; unfold walkId at h3; omega)
  exact ⟨by rw [cupv_fr hF (fun q j a b => by unfold rF; omega)]; exact h1, h2, h3, by rw [e]; exact h4, by rw [e]; exact h5⟩
theorem TPre.v {D D' : DD} {W : Nat → Nat} {w : Nat} (h : TPre D W w) (hF : Fr rF D D') : cupv D' 31 = cupv D 31 ∧ lawO D' (W 9) = lawO D (W 9) ∧ wkv D' w = wkv D w ∧ D' w 4 = D w 4 := by
  obtain ⟨h1, h2, h3, h4, h5⟩ := h
  refine ⟨cupv_fr hF (fun q j a b => by unfold rF; omega), ?_, wkv_fr hF (fun q j a b => by unfold rF; unfold walkId at h3; omega), hF w 4 (by unfold rF; unfold walkId at h3; omega)⟩
  rcases h2 with e | e
  · unfold lawO
    rw [if_pos e, if_pos e]
  · exact lawO_fr hF (fun j => by unfold rF; unfold lawId at e; omega)
section THR
variable {d n1 : Nat} {W : Nat → Nat} {D : DD} {w : Nat}
theorem C_through {fr to t : Int} (hT : TPre D W w) (hz : ZOK (trv D)) (hsum : D 30 4 ≤ 1000000000) (htick : D 34 0 ≤ 100000) (k0 : 0 ≤ D 30 9) (k1 : D 30 9 ≤ 1040) (hst : D 30 3 ≠ 0 → D 30 4 = 0) :
    Cl (d + 5) 0 0 mX7_through [vr 30, vr w, vi fr, vi to, vi t] (D, rho n1 W) (KV (fun m => ∃ D', m = (D', rho n1 W) ∧ Fr rF D D' ∧ D' 30 3 = D 30 3 ∧ 0 ≤ D' 30 9 ∧ D' 30 9 ≤ 1040 ∧
      ((trv D' = zrun 1040 (cupv D 31) (lawO D (W 9)) (wkv D w) (fun _ => t) (min to (D w 4) - max 0 fr).toNat (max 0 fr) (trv D) ∧ (D 30 3 ≠ 0 → D' 30 4 = 0)) ∨
       (D 30 3 ≠ 0 ∧ 0 < D' 30 4 ∧ 0 < zSum (zrun 1040 (cupv D 31) (lawO D (W 9)) (wkv D w) (fun _ => t) (min to (D w 4) - max 0 fr).toNat (max 0 fr) (trv D)))))) := by
  obtain ⟨hc, hl, hw, hw0, hw1⟩ := id hT
  have hcl : 1 ≤ D 31 0 ∧ D 31 0 ≤ 19 := ⟨hc.1, hc.2.1⟩
  have hlate : 0 ≤ D 32 5 ∧ D 32 5 ≤ 20 := by
    obtain ⟨_, _, _, _, _, _, _, _, _, _, _, s5, _⟩ := hc
    have e : cSet (cupv D 31) 5 = D 32 5 := cut_in (n := 7) (f := D 32) (k := 5) (by decide) (by decide)
    rw [e] at s5
    exact s5
  refine Cl_of mb_X7_through (by show 5 ≤ 7; decide) (sg_X7_through_0 ⟨(sWk_of (n1 := n1) (W := W) hw).1, cP C_min (cP C_max ?_)⟩)
  show Wp (d + 4 + 1) 0 0 mX7_through 17 [some (vr 30), some (vr w), some (vi fr), some (vi to), some (vi t), some (vi (min to (D w 4))), some (vi (max 0 fr))] [] (D, rho n1 W) _
  generalize eE : min to (D w 4) = en
  generalize eI : max 0 fr = i0
  have hi0 : 0 ≤ i0 := by omega
  have hen : en ≤ 1000 := by omega
  refine Wp.loop (σ := Int) (fun i => [some (vr 30), some (vr w), some (vi fr), some (vi to), some (vi t), some (vi en), some (vi i)])
    (fun i μ => ∃ E : DD, μ = (E, rho n1 W) ∧ Fr rF D E ∧ E 30 3 = D 30 3 ∧ 0 ≤ E 30 9 ∧ E 30 9 ≤ 1040 ∧ i0 ≤ i ∧ (i ≤ en ∨ i = i0) ∧ trv E = zrun 1040 (cupv D 31) (lawO D (W 9)) (wkv D w) (fun _ => t) (i - i0).toNat i0 (trv D) ∧ (D 30 3 ≠ 0 → E 30 4 = 0))
    (fun i => (en - i).toNat) ?_ i0 (D, rho n1 W) ⟨D, rfl, Fr.refl, rfl, k0, k1, Int.le_refl _, Or.inr rfl, by rw [show (i0 - i0).toNat = 0 by omega, zrun_0], hst⟩
  rintro i μ ⟨E, rfl, hF, e3, e90, e91, hi, hi', hv, hs⟩ ih
  refine sg_X7_through_17 ⟨fun c => ⟨rfl, E, rfl, hF, e3, e90, e91, Or.inl ⟨?_, hs⟩⟩, fun c => ⟨rfl, rfl, ?_⟩⟩
  · rw [hv]
    rcases hi' with q | q
    · rw [show i = en by omega]
    · rw [show (i - i0).toNat = 0 by omega, show (en - i0).toNat = 0 by omega]
  have hn : (i - i0).toNat ≤ 1000 := by omega
  obtain ⟨p0, p1, p2, p3⟩ := zrun_phys (cap := 1040) (L := lawO D (W 9)) (w := wkv D w) (t := fun _ => t) hc (n := (i - i0).toNat) (i := i0) hz (by show D 30 4 + _ < _; omega) (by show D 34 0 + _ < _; omega)
  rw [← hv] at p0 p3
  obtain ⟨v1, v2, v3, v4⟩ := hT.v hF
  have hTE := hT.fr hF
  have tE : E 34 0 = D 34 0 + (i - i0).toNat := p3
  have q31 : E 31 0 = D 31 0 := hF 31 0 (by unfold rF; omega)
  have q32 : E 32 5 = D 32 5 := hF 32 5 (by unfold rF; omega)
  refine cI (C_carry (D := E) (o := 34) (c := 31) (l := W 9) (w := w) st34 cup31 (hl.imp id sLaw_of) (sWk_of hw) (by rw [q31]; exact hcl.1) (by rw [q31]; exact hcl.2) p0.1.2.2 (by rw [q32]; exact hlate.1) (by rw [q32]; exact hlate.2)
    (by omega) (by rw [v4]; omega) (by rw [v4]; exact hw1) (by omega) (by unfold walkId at hw; omega) (hl.imp id (fun h => by unfold lawId at h; unfold walkId at hw; omega))) ?_
  rintro x1 m1 ⟨E1, rfl, h1, c1⟩
  rw [v1, v2, v3] at c1
  have hF1 : Fr rF E E1 := h1.mono (fun q j h => by
    rcases h with h | h
    · unfold rF; omega
    · rcases hl with z | z
      · exact absurd z h.1
      · unfold lawId at z; unfold rF; omega)
  have z30 : ∀ j, E1 30 j = E 30 j := fun j => h1 30 j (by
    rcases hl with z | z
    · omega
    · unfold lawId at z; omega)
  have z42 : E1 42 = E 42 := h1.obj (fun j => by
    rcases hl with z | z
    · omega
    · unfold lawId at z; omega)
  have r31 : E1 31 0 = E 31 0 := hF1 31 0 (by unfold rF; omega)
  refine ⟨rfl, cV (C_tnote (D := E1) (by rw [r31, q31]; exact hcl.1) (by rw [r31, q31]; exact hcl.2) (by rw [z30]; exact e90) (by rw [z30]; exact e91)) ?_⟩
  rintro m2 ⟨E2, rfl, h2, f90, f91, n2⟩
  have hF2 : Fr rF D E2 := (hF.trans hF1).trans (h2.mono (fun q j h => by unfold nF at h; unfold rF; omega))
  have e33 : E2 30 3 = D 30 3 := by rw [h2 30 3 (by unfold nF; omega), z30, e3]
  have key : trv E2 = zrun 1040 (cupv D 31) (lawO D (W 9)) (wkv D w) (fun _ => t) (i + 1 - i0).toNat i0 (trv D) := by
    rw [show (i + 1 - i0).toNat = (i - i0).toNat + 1 by omega, zrun_l, show i0 + ((i - i0).toNat : Int) = i by omega, ← hv, n2, (hT.v (hF.trans hF1)).1]
    have eo : zout (trv E1) = zout (trv E) := by
      unfold zout trv
      dsimp only
      rw [z30, z30, z30, z30, z30, z42]
    rw [znote_out eo, c1]
    rfl
  have go := fun (hgo : D 30 3 ≠ 0 → E2 30 4 = 0) => ih (i + 1) (E2, rho n1 W) ⟨E2, rfl, hF2, e33, f90, f91, by omega, Or.inl (by omega), key, hgo⟩ (by omega)
  have wi : w32 (i + 1) = i + 1 := w32_id (by omega) (by omega)
  refine ⟨rfl, fun c2 => ?_, fun c2 => ⟨fun c3 => ?_, fun c3 => ⟨rfl, E2, rfl, hF2, e33, f90, f91, Or.inr ⟨?_, by change ¬ E2 30 4 ≤ 0 at c3; omega, ?_⟩⟩⟩⟩
  · rintro v rfl
    rw [wi]
    exact go (fun h => absurd (e33.symm.trans c2) h)
  · rintro v rfl
    rw [wi]
    change E2 30 4 ≤ 0 at c3
    obtain ⟨b0, -⟩ := zrun_phys (cap := 1040) (L := lawO D (W 9)) (w := wkv D w) (t := fun _ => t) hc (n := (i + 1 - i0).toNat) (i := i0) hz (by show D 30 4 + _ < _; omega) (by show D 34 0 + _ < _; omega)
    rw [← key] at b0
    have b1 : 0 ≤ E2 30 4 := b0.2
    exact go (fun _ => by omega)
  · change ¬ E2 30 3 = 0 at c2
    rw [← e33]
    exact c2
  · change ¬ E2 30 4 ≤ 0 at c3
    have e4 : D 30 4 = 0 := hst (by rw [← e33]; exact c2)
    obtain ⟨b0, -, b2, b3⟩ := zrun_phys (cap := 1040) (L := lawO D (W 9)) (w := wkv D w) (t := fun _ => t) hc (n := (i + 1 - i0).toNat) (i := i0) hz (by show D 30 4 + _ < _; omega) (by show D 34 0 + _ < _; omega)
    have b2 : zSum (zrun 1040 (cupv D 31) (lawO D (W 9)) (wkv D w) (fun _ => t) (i + 1 - i0).toNat i0 (trv D)) ≤ D 30 4 + 80000 * ((i + 1 - i0).toNat : Int) := b2
    have b3 : sTick (zS (zrun 1040 (cupv D 31) (lawO D (W 9)) (wkv D w) (fun _ => t) (i + 1 - i0).toNat i0 (trv D))) = D 34 0 + ((i + 1 - i0).toNat : Int) := b3
    rw [show (en - i0).toNat = (i + 1 - i0).toNat + (en - (i + 1)).toNat by omega, zrun_add]
    obtain ⟨-, g1, -⟩ := zrun_phys (cap := 1040) (L := lawO D (W 9)) (w := wkv D w) (t := fun _ => t) hc (n := (en - (i + 1)).toNat) (i := i0 + ((i + 1 - i0).toNat : Int)) b0 (by omega) (by omega)
    rw [← key] at g1
    rw [← key]
    have : zSum (trv E2) = E2 30 4 := rfl
    omega
theorem C_tbegin {seed : Int} (l : 1 ≤ D 31 0) : Cl (d + 3) 0 0 mX7_begin [vr 30, vi seed] (D, rho n1 W) (KV (fun m => ∃ D', m = (D', rho n1 W) ∧ Fr rF D D' ∧ D' 30 3 = 0 ∧ D' 30 9 = 0 ∧ trv D' = zbeg (cupv D 31) (stv D 34) seed)) := by
  refine Cl_of mb_X7_begin (by show 2 ≤ 2; decide) (sg_X7_begin_0 ⟨rfl, rfl, cV (C_sfresh (D := D) (o := 34) (c := 31) st34 cup31 (by omega)) ?_⟩)
  rintro m1 ⟨E, rfl, h1, v1⟩
  refine ⟨rfl, rfl, ?_⟩
  intro m2 e2 m3 e3 m4 e4 m5 e5 m6 e6 m7 e7 m8 e8
  refine ⟨rfl, wr (wr (wr (wr (wr (wr (wr E 34 1 seed) 30 3 0) 30 4 0) 30 5 (-1)) 30 6 0) 30 7 0) 30 9 0, by rw [e8, e7, e6, e5, e4, e3, e2]; rfl, ?_, ?_, ?_, ?_⟩
  · have h1' : Fr rF D E := h1.mono (fun q j h => by unfold rF; omega)
    exact ((((((h1'.wr (by unfold rF; omega)).wr (by unfold rF; omega)).wr (by unfold rF; omega)).wr (by unfold rF; omega)).wr (by unfold rF; omega)).wr (by unfold rF; omega)).wr (by unfold rF; omega)
  · rw [wr_j (by decide), wr_j (by decide), wr_j (by decide), wr_j (by decide), wr_j (by decide), wr_at]
  · exact wr_at
  · generalize eG : wr E 34 1 seed = G
    have hG : Fr (fun q j => q = 34 ∧ j = 1) E G := by rw [← eG]; exact Fr.refl.wr ⟨rfl, rfl⟩
    have hK : Fr (fun q _ => q = 30) G (wr (wr (wr (wr (wr (wr G 30 3 0) 30 4 0) 30 5 (-1)) 30 6 0) 30 7 0) 30 9 0) := (((((Fr.refl.wr rfl).wr rfl).wr rfl).wr rfl).wr rfl).wr rfl
    unfold trv zbeg
    rw [stv_fr hK (fun q j a b => by omega), wr_at, wr_j (by decide), wr_j (by decide), wr_j (by decide), wr_j (by decide), wr_at, wr_j (by decide), wr_j (by decide), wr_j (by decide), wr_at, wr_j (by decide), wr_j (by decide), wr_at, wr_j (by decide), wr_at, lst_0 (by decide)]
    have e0 : G 34 1 = seed := by rw [← eG]; exact wr_at
    have e1 : G 34 0 = E 34 0 := hG 34 0 (by omega)
    have s1 : stv G 34 = (E 34 0, seed, (stv E 34).2.2) := by
      unfold stv
      rw [rowv_fr hG (fun q j a b => by omega), rowv_fr hG (fun q j a b => by omega), e0, e1, hG.obj (fun j => by omega)]
    have e2 : E 34 0 = 0 := congrArg Prod.fst v1
    rw [s1, v1, e2]
end THR
