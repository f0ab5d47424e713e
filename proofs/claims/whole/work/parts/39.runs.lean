/-! ===== what the Trial's runs tell ===== -/
def zOut (c : Cv) (L : Option (List Int)) (w : Wv) (t : Int → Int) (n : Nat) (i seed : Int) : Zo := zout (zrun 1040 c L w t n i (zbeg0 c seed))
def zOn (c : Cv) (L : Option (List Int)) (w : Wv) (seed : Int) : Zo := zOut c L w (fun _ => 0) (wTicks w).toNat 0 seed
def zTurn (c : Cv) (L : Option (List Int)) (w : Wv) (at' : Int) : Zo := zOut c L w (fun i => bi (at' ≤ i)) (wTicks w).toNat 0 1
def zFrom (c : Cv) (L : Option (List Int)) (w : Wv) (k : Int) : Zo := zOut c L w (fun _ => 0) (wTicks w - k).toNat k 1
def zstill (cap : Nat) (c : Cv) : Nat → Zr → Zr
  | 0, z => z
  | n + 1, z => znote cap c (ztick c 0 0 (zS (zstill cap c n z))) (zstill cap c n z)
def zPause (c : Cv) (L : Option (List Int)) (w : Wv) (at' : Int) (k : Nat) : Zo :=
  zout (zrun 1040 c L w (fun _ => 0) (wTicks w - at').toNat at' (zstill 1040 c k (zrun 1040 c L w (fun _ => 0) (min at' (wTicks w)).toNat 0 (zbeg0 c 1))))
def oSum (o : Zo) : Int := o.1
def oFirst (o : Zo) : Int := o.2.1
def oHigh (o : Zo) : Int := o.2.2.1
def oGsl (o : Zo) : Int := o.2.2.2.1
def oList (o : Zo) : List Int := o.2.2.2.2
theorem zstill_phys {cap : Nat} {c : Cv} (hc : COK c) {z : Zr} (hz : ZOK z) (hs : zSum z ≤ 1000000000) (ht : sTick (zS z) ≤ 100000) : ∀ {n : Nat}, n ≤ 40 →
    ZOK (zstill cap c n z) ∧ zSum (zstill cap c n z) ≤ zSum z + 80000 * (n : Int) ∧ sTick (zS (zstill cap c n z)) = sTick (zS z) + n
  | 0, _ => ⟨hz, by show zSum z ≤ _; omega, by show sTick (zS z) = _; omega⟩
  | n + 1, hn => by
    obtain ⟨i0, i1, i2⟩ := zstill_phys (cap := cap) hc hz hs ht (n := n) (by omega)
    obtain ⟨a0, a1, a2, a3⟩ := ztick_phys (pa := 0) (pc := 0) hc i0.1 (by omega)
    obtain ⟨b0, b1⟩ := znote_phys (cap := cap) (c := c) i0.2 (by omega) a0 a1 a2
    have b2 : sTick (zS (zstill cap c (n + 1) z)) = sTick (zS (zstill cap c n z)) + 1 := a3
    exact ⟨b0, by show zSum (znote cap c _ _) ≤ _; omega, by omega⟩
theorem zstill_sim {cap : Nat} {c : Cv} {z z' : Zr} (h : SimZ z z') (t0 : 0 ≤ sTick (zS z)) (t1 : sTick (zS z) ≤ 100000) : ∀ {n : Nat}, n ≤ 40 → SimZ (zstill cap c n z) (zstill cap c n z') ∧ sTick (zS (zstill cap c n z)) = sTick (zS z) + n
  | 0, _ => ⟨h, by show sTick (zS z) = _; omega⟩
  | n + 1, hn => by
    obtain ⟨i0, i1⟩ := zstill_sim (cap := cap) h t0 t1 (n := n) (by omega)
    obtain ⟨a0, a1⟩ := i0.1.tick (c := c) (pa := 0) (pc := 0) (by omega) (by omega)
    refine ⟨i0.note a0 a1, ?_⟩
    show w32 (sTick (zS (zstill cap c n z)) + 1) = _
    rw [w32_id (by omega) (by omega)]
    omega
theorem COK.late {c : Cv} (h : COK c) : 0 ≤ cSet c 5 ∧ cSet c 5 ≤ 20 := by
  obtain ⟨_, _, _, _, _, _, _, _, _, _, _, s5, _⟩ := h
  exact s5
theorem zbeg_run {c : Cv} {L : Option (List Int)} {w : Wv} {t : Int → Int} {n : Nat} {i seed : Int} {s : Sv} (hc : COK c) (hn : n ≤ 2000) : zout (zrun 1040 c L w t n i (zbeg c s seed)) = zOut c L w t n i seed :=
  (SimZ.run hc.late.1 hc.late.2 zbeg_sim (Int.le_refl 0) (by show (0 : Int) + n < _; omega)).2
section RUNS
variable {d n1 : Nat} {W : Nat → Nat} {D : DD} {w : Nat}
theorem trv_beg {D1 : DD} {c : Cv} {s : Sv} {seed : Int} (hc : COK c) (v : trv D1 = zbeg c s seed) : ZOK (trv D1) ∧ D1 30 4 = 0 ∧ D1 34 0 = 0 := by
  refine ⟨by rw [v]; exact zbeg_ok hc, congrArg (fun q => q.2.1) v, congrArg (fun q => q.1.1) v⟩
theorem C_spiltOn {seed : Int} (hT : TPre D W w) : Cl (d + 6) 0 0 mX7_spiltOn [vr 30, vr w, vi seed] (D, rho n1 W) (KI (fun r m => ∃ D', m = (D', rho n1 W) ∧ Fr rF D D' ∧ zout (trv D') = zOn (cupv D 31) (lawO D (W 9)) (wkv D w) seed ∧ r = oSum (zOn (cupv D 31) (lawO D (W 9)) (wkv D w) seed))) := by
  refine Cl_of mb_X7_spiltOn (by show 3 ≤ 3; decide) (sg_X7_spiltOn_0 ⟨rfl, cV (C_tbegin (D := D) hT.1.1) ?_⟩)
  rintro m1 ⟨D1, rfl, h1, a1, a2, v1⟩
  obtain ⟨z0, z1, z2⟩ := trv_beg hT.1 v1
  obtain ⟨q1, q2, q3, q4⟩ := hT.v h1
  have h0 := hT.2.2.2.1
  have h9 := hT.2.2.2.2
  refine ⟨(sWk_of (n1 := n1) (W := W) hT.2.2.1).1, rfl, cV (C_through (D := D1) (hT.fr h1) z0 (by rw [z1]; decide) (by rw [z2]; decide) (by rw [a2]; decide) (by rw [a2]; decide) (fun h => absurd a1 h)) ?_⟩
  rintro m2 ⟨D2, rfl, h2, b1, b2, b3, b4⟩
  rcases b4 with ⟨b4, -⟩ | ⟨b4, -⟩
  · have key : zout (trv D2) = zOn (cupv D 31) (lawO D (W 9)) (wkv D w) seed := by
      rw [b4, q1, q2, q3, v1]
      show zout (zrun 1040 _ _ _ _ (min (D1 w 4) (D1 w 4) - max 0 0).toNat (max 0 0) _) = _
      rw [zbeg_run hT.1 (by omega), q4]
      show zOut _ _ _ _ (min (D w 4) (D w 4) - max 0 0).toNat 0 _ = zOut _ _ _ _ (D w 4).toNat 0 _
      rw [show (min (D w 4) (D w 4) - max 0 0).toNat = (D w 4).toNat by omega]
    exact ⟨rfl, _, rfl, D2, rfl, h1.trans h2, key, by rw [← key]; rfl⟩
  · exact absurd a1 b4
theorem C_keepsAll (hT : TPre D W w) : Cl (d + 6) 0 0 mX7_keepsAll [vr 30, vr w] (D, rho n1 W) (KI (fun r m => ∃ D', m = (D', rho n1 W) ∧ Fr rF D D' ∧ r = bi (oSum (zOn (cupv D 31) (lawO D (W 9)) (wkv D w) 1) = 0) ∧ (oSum (zOn (cupv D 31) (lawO D (W 9)) (wkv D w) 1) = 0 → zout (trv D') = zOn (cupv D 31) (lawO D (W 9)) (wkv D w) 1))) := by
  refine Cl_of mb_X7_keepsAll (by show 2 ≤ 2; decide) (sg_X7_keepsAll_0 ⟨rfl, cV (C_tbegin (D := D) hT.1.1) ?_⟩)
  rintro m1 ⟨E1, rfl, g1, a1, a2, v1⟩
  refine ⟨rfl, fun m2 e2 => ?_⟩
  obtain ⟨D1, q0, h1, a1', a2', v1'⟩ : ∃ D1 : DD, m2 = (D1, rho n1 W) ∧ Fr rF D D1 ∧ D1 30 3 = 1 ∧ D1 30 9 = 0 ∧ trv D1 = zbeg (cupv D 31) (stv D 34) 1 := by
    refine ⟨wr E1 30 3 1, e2, g1.wr (by unfold rF; omega), wr_at, by rw [wr_j (by decide)]; exact a2, ?_⟩
    have hK : Fr (fun q _ => q = 30) E1 (wr E1 30 3 1) := Fr.refl.wr rfl
    rw [← v1]
    unfold trv
    rw [stv_fr hK (fun q j a b => by omega), wr_j (by decide), wr_j (by decide), wr_j (by decide), wr_j (by decide), wr_j (by decide), wr_o (by decide)]
  subst q0
  obtain ⟨z0, z1, z2⟩ := trv_beg hT.1 v1'
  obtain ⟨q1, q2, q3, q4⟩ := hT.v h1
  have h0 := hT.2.2.2.1
  have h9 := hT.2.2.2.2
  have key : zout (zrun 1040 (cupv D1 31) (lawO D1 (W 9)) (wkv D1 w) (fun _ => 0) (min (D1 w 4) (D1 w 4) - max 0 0).toNat (max 0 0) (trv D1)) = zOn (cupv D 31) (lawO D (W 9)) (wkv D w) 1 := by
    rw [q1, q2, q3, v1']
    rw [zbeg_run hT.1 (by omega), q4]
    show zOut _ _ _ _ (min (D w 4) (D w 4) - max 0 0).toNat 0 _ = zOut _ _ _ _ (D w 4).toNat 0 _
    rw [show (min (D w 4) (D w 4) - max 0 0).toNat = (D w 4).toNat by omega]
  refine ⟨(sWk_of (n1 := n1) (W := W) hT.2.2.1).1, cV (C_through (D := D1) (hT.fr h1) z0 (by rw [z1]; decide) (by rw [z2]; decide) (by rw [a2']; decide) (by rw [a2']; decide) (fun _ => z1)) ?_⟩
  rintro m2 ⟨D2, rfl, h2, b1, b2, b3, b4⟩
  change (trv D2 = zrun 1040 (cupv D1 31) (lawO D1 (W 9)) (wkv D1 w) (fun _ => 0) (min (D1 w 4) (D1 w 4) - max 0 0).toNat (max 0 0) (trv D1) ∧ _) ∨ _ at b4
  refine ⟨rfl, fun c => ⟨_, rfl, D2, rfl, h1.trans h2, ?_, ?_⟩, fun c => ⟨_, rfl, D2, rfl, h1.trans h2, ?_, ?_⟩⟩
  · change ¬ D2 30 4 = 0 at c
    rcases b4 with ⟨b4, b5⟩ | ⟨b4, b5, b6⟩
    · exact absurd (b5 (by rw [a1']; decide)) c
    · rw [bi_0]
      rw [← key]
      exact fun h => by
        have : zSum (zrun 1040 (cupv D1 31) (lawO D1 (W 9)) (wkv D1 w) (fun _ => 0) (min (D1 w 4) (D1 w 4) - max 0 0).toNat (max 0 0) (trv D1)) = 0 := h
        have b6 : 0 < zSum (zrun 1040 (cupv D1 31) (lawO D1 (W 9)) (wkv D1 w) (fun _ => 0) (min (D1 w 4) (D1 w 4) - max 0 0).toNat (max 0 0) (trv D1)) := b6
        omega
  · change ¬ D2 30 4 = 0 at c
    rcases b4 with ⟨b4, b5⟩ | ⟨b4, b5, b6⟩
    · exact absurd (b5 (by rw [a1']; decide)) c
    · intro h
      rw [← key] at h
      have h : zSum (zrun 1040 (cupv D1 31) (lawO D1 (W 9)) (wkv D1 w) (fun _ => 0) (min (D1 w 4) (D1 w 4) - max 0 0).toNat (max 0 0) (trv D1)) = 0 := h
      have b6 : 0 < zSum (zrun 1040 (cupv D1 31) (lawO D1 (W 9)) (wkv D1 w) (fun _ => 0) (min (D1 w 4) (D1 w 4) - max 0 0).toNat (max 0 0) (trv D1)) := b6
      omega
  · change D2 30 4 = 0 at c
    rcases b4 with ⟨b4, b5⟩ | ⟨b4, b5, b6⟩
    · rw [bi_1]
      rw [← key, ← b4]
      exact c
    · omega
  · change D2 30 4 = 0 at c
    rcases b4 with ⟨b4, b5⟩ | ⟨b4, b5, b6⟩
    · intro _
      rw [← key, ← b4]
    · omega
theorem C_spiltFrom {k : Int} (hT : TPre D W w) (k0 : 0 ≤ k) : Cl (d + 6) 0 0 mX7_spiltFrom [vr 30, vr w, vi k] (D, rho n1 W) (KI (fun r m => ∃ D', m = (D', rho n1 W) ∧ Fr rF D D' ∧ r = oSum (zFrom (cupv D 31) (lawO D (W 9)) (wkv D w) k))) := by
  refine Cl_of mb_X7_spiltFrom (by show 3 ≤ 3; decide) (sg_X7_spiltFrom_0 ⟨rfl, cV (C_tbegin (D := D) hT.1.1) ?_⟩)
  rintro m1 ⟨D1, rfl, h1, a1, a2, v1⟩
  obtain ⟨z0, z1, z2⟩ := trv_beg hT.1 v1
  obtain ⟨q1, q2, q3, q4⟩ := hT.v h1
  have h0 := hT.2.2.2.1
  have h9 := hT.2.2.2.2
  refine ⟨(sWk_of (n1 := n1) (W := W) hT.2.2.1).1, rfl, cV (C_through (D := D1) (hT.fr h1) z0 (by rw [z1]; decide) (by rw [z2]; decide) (by rw [a2]; decide) (by rw [a2]; decide) (fun h => absurd a1 h)) ?_⟩
  rintro m2 ⟨D2, rfl, h2, b1, b2, b3, b4⟩
  rcases b4 with ⟨b4, -⟩ | ⟨b4, -⟩
  · have key : zout (trv D2) = zFrom (cupv D 31) (lawO D (W 9)) (wkv D w) k := by
      rw [b4, q1, q2, q3, v1]
      show zout (zrun 1040 _ _ _ _ (min (D1 w 4) (D1 w 4) - max 0 k).toNat (max 0 k) _) = _
      rw [zbeg_run hT.1 (by omega), q4]
      show zOut _ _ _ _ (min (D w 4) (D w 4) - max 0 k).toNat (max 0 k) _ = zOut _ _ _ _ (D w 4 - k).toNat k _
      rw [show (min (D w 4) (D w 4) - max 0 k).toNat = (D w 4 - k).toNat by omega, show max 0 k = k by omega]
    exact ⟨rfl, _, rfl, D2, rfl, h1.trans h2, by rw [← key]; rfl⟩
  · exact absurd a1 b4
theorem C_spiltWithTurn {k : Int} (hT : TPre D W w) (k0 : 0 ≤ k) : Cl (d + 6) 0 0 mX7_spiltWithTurn [vr 30, vr w, vi k] (D, rho n1 W) (KI (fun r m => ∃ D', m = (D', rho n1 W) ∧ Fr rF D D' ∧ r = oSum (zTurn (cupv D 31) (lawO D (W 9)) (wkv D w) k))) := by
  refine Cl_of mb_X7_spiltWithTurn (by show 3 ≤ 3; decide) (sg_X7_spiltWithTurn_0 ⟨rfl, cV (C_tbegin (D := D) hT.1.1) ?_⟩)
  rintro m1 ⟨D1, rfl, h1, a1, a2, v1⟩
  obtain ⟨z0, z1, z2⟩ := trv_beg hT.1 v1
  obtain ⟨q1, q2, q3, q4⟩ := hT.v h1
  have h0 := hT.2.2.2.1
  have h9 := hT.2.2.2.2
  refine ⟨rfl, cV (C_through (D := D1) (hT.fr h1) z0 (by rw [z1]; decide) (by rw [z2]; decide) (by rw [a2]; decide) (by rw [a2]; decide) (fun h => absurd a1 h)) ?_⟩
  rintro m2 ⟨D2, rfl, h2, b1, b2, b3, b4⟩
  rcases b4 with ⟨b4, -⟩ | ⟨b4, -⟩
  · have h12 := h1.trans h2
    obtain ⟨r1, r2, r3, r4⟩ := hT.v h12
    obtain ⟨p0, p1, p2, p3⟩ := zrun_phys (cap := 1040) (L := lawO D1 (W 9)) (w := wkv D1 w) (t := fun _ => 0) (c := cupv D1 31) (by rw [q1]; exact hT.1) (n := (min k (D1 w 4) - max 0 0).toNat) (i := max 0 0) z0 (by show D1 30 4 + _ < _; omega) (by show D1 34 0 + _ < _; omega)
    rw [← b4] at p0 p2 p3
    have p2 : D2 30 4 ≤ D1 30 4 + 80000 * ((min k (D1 w 4) - max 0 0).toNat : Int) := p2
    have p3 : D2 34 0 = D1 34 0 + ((min k (D1 w 4) - max 0 0).toNat : Int) := p3
    refine ⟨(sWk_of (n1 := n1) (W := W) hT.2.2.1).1, rfl, cV (C_through (D := D2) (hT.fr h12) p0 (by omega) (by omega) b2 b3 (fun h => absurd (b1.trans a1) h)) ?_⟩
    rintro m3 ⟨D3, rfl, h3, c1, c2, c3, c4⟩
    rcases c4 with ⟨c4, -⟩ | ⟨c4, -⟩
    · have key : zout (trv D3) = zTurn (cupv D 31) (lawO D (W 9)) (wkv D w) k := by
        rw [c4, b4, r1, r2, r3, r4, q1, q2, q3, q4, v1]
        show zout (zrun 1040 _ _ _ _ (min (D2 w 4) (D w 4) - max 0 k).toNat (max 0 k) (zrun 1040 _ _ _ _ (min k (D w 4) - max 0 0).toNat (max 0 0) _)) = _
        rw [r4]
        have m0 : (max 0 0 : Int) = 0 := by decide
        rw [m0, show (min k (D w 4) - 0).toNat = (min k (D w 4)).toNat by omega, show max 0 k = k by omega, show (min (D w 4) (D w 4) - k).toNat = (D w 4 - k).toNat by omega]
        rw [zrun_t (t := fun _ => 0) (t' := fun i => bi (k ≤ i)) (fun j j0 j1 => (bi_0 (by omega)).symm), zrun_t (t := fun _ => 1) (t' := fun i => bi (k ≤ i)) (fun j j0 j1 => (bi_1 (by omega)).symm)]
        by_cases e : k ≤ D w 4
        · rw [show (zrun 1040 (cupv D 31) (lawO D (W 9)) (wkv D w) (fun i => bi (k ≤ i)) (D w 4 - k).toNat k) = (zrun 1040 (cupv D 31) (lawO D (W 9)) (wkv D w) (fun i => bi (k ≤ i)) (D w 4 - k).toNat (0 + ((min k (D w 4)).toNat : Int))) by rw [show (0 : Int) + ((min k (D w 4)).toNat : Int) = k by omega]]
          rw [← zrun_add, zbeg_run hT.1 (by omega), show (min k (D w 4)).toNat + (D w 4 - k).toNat = (D w 4).toNat by omega]
          rfl
        · rw [show (D w 4 - k).toNat = 0 by omega, zrun_0, zbeg_run hT.1 (by omega), show (min k (D w 4)).toNat = (D w 4).toNat by omega]
          rfl
      exact ⟨rfl, _, rfl, D3, rfl, h12.trans h3, by rw [← key]; rfl⟩
    · exact absurd (b1.trans a1) c4
  · exact absurd a1 b4
end RUNS
