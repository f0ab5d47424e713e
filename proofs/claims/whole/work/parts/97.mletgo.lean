/-! ===== the model let go: swing, dies, off; odds ===== -/
theorem zsum_le {h : Int → Int} {B : Int} : ∀ n : Nat, (∀ j : Int, 0 ≤ j → j < n → h j ≤ B) → zsum n h ≤ n * B
  | 0, _ => by
    show (0 : Int) ≤ ((0 : Nat) : Int) * B
    rw [show ((0 : Nat) : Int) * B = 0 by simp]
    decide
  | n + 1, hb => by
    have ih := zsum_le (h := h) (B := B) n (fun j h0 h1 => hb j h0 (by omega))
    have hn := hb n (by omega) (by omega)
    show zsum n h + h n ≤ _
    rw [show ((n + 1 : Nat) : Int) = n + 1 by omega, Int.add_mul, Int.one_mul]
    omega
theorem HOK_of {h : Int → Int} (hh : ∀ j, 0 ≤ j → j < 20 → 0 ≤ h j ∧ h j ≤ 999) : HOK h := by
  refine ⟨fun j a b => (hh j a b).1, ?_⟩
  have := zsum_le (h := h) (B := 999) 20 (fun j a b => (hh j a (by omega)).2)
  omega
theorem zlean_rng {c : Cv} {tilt : Int} {h : Int → Int} (hc : COK c) {j : Int} (hh : cLast c < j → 0 ≤ h j ∧ h j ≤ 999) (j0 : 0 ≤ j) : 0 ≤ zlean c tilt h j ∧ zlean c tilt h j ≤ 999 := by
  obtain ⟨l0, l1, r0, r1, f0, f1, -⟩ := hc
  unfold zlean
  by_cases q : 0 ≤ j ∧ j ≤ cLast c
  · rw [if_pos q]
    have := btw_rng (x := w32 (cFill c + w32 ((w32 (tilt * w32 (cLast c - w32 (2 * j)))).tdiv (cLast c)))) (lo := 0) (hi := cRim c) (by omega)
    omega
  · rw [if_neg q]
    exact hh (by omega)
theorem HOK_lean0 {c : Cv} {tilt : Int} (hc : COK c) : HOK (zleanr c tilt (zfr (cFill c))).1 := by
  refine HOK_of (fun j a b => zlean_rng hc (fun _ => ?_) a)
  obtain ⟨l0, l1, r0, r1, f0, f1, -⟩ := hc
  show 0 ≤ cut 20 (fun _ => cFill c) j ∧ cut 20 (fun _ => cFill c) j ≤ 999
  rw [cut_in a b]
  omega
def lgF (q : Nat) (j : Int) : Prop := mrF q j ∨ q = 178
section MLG
variable {d n1 : Nat} {W V : Nat → Nat} {D E : DD} {lw : Int → Option (List Int)} {c : Cv}
theorem MAc.lg {E' : DD} (h : MAc D W E V c) (f : Fr lgF E E') (hs : mst E' = mst E) : MAc D W E' V c := by
  obtain ⟨h1, h2, h3, h4, h5, h6⟩ := h
  refine ⟨h1, h2.trans (f.mono (fun q j z => by unfold lgF mrF mgF at z; unfold maF; omega)), hs.trans h3, (mcup_fr f (fun j x y => by unfold lgF mrF mgF; omega) (fun q j x y => by unfold lgF mrF mgF; omega)).trans h4, by rw [f 152 15 (by unfold lgF mrF mgF; omega)]; exact h5, ?_⟩
  rw [← h6]
  unfold MTV mtoldv
  rw [f 152 14 (by unfold lgF mrF mgF; omega), f.obj (o := 160) (fun j => by unfold lgF mrF mgF; omega)]
theorem C_mletGo {tilt n : Int} (hc : COK (mcup D)) (n0 : 0 ≤ n) (n400 : n ≤ 400) : Cl (d + 3) 0 0 mX10_letGo [vr 152, vi tilt, vi n] (D, rho n1 W) (KV (fun m => ∃ D', m = (D', rho n1 W) ∧ Fr lgF D D' ∧ mst D' = mst D ∧ ∀ k, 0 ≤ k → k ≤ n → D' 178 k = zlg (mcup D) tilt k)) := by
  have hmb := hc.mb
  refine Cl_of mb_X10_letGo (Nat.le_of_ble_eq_true rfl) (sg_X10_letGo_0 ⟨rfl, cV (C_mputBy (D := D) (i := 3) (by decide) (by decide)) ?_⟩)
  rintro m ⟨D1, rfl, f1, k1⟩
  refine ⟨rfl, cV (C_mbegin (D := D1)) ?_⟩
  rintro m ⟨D2, rfl, f2, h2⟩
  have c1 : mcup D1 = mcup D := mcup_fr f1 (fun j x y => by unfold pkF; omega) (fun q j x y => by unfold pkF; omega)
  have c2 : mcup D2 = mcup D := by rw [mcup_fr f2 (fun j x y => by unfold mbF; omega) (fun q j x y => by unfold mbF; omega), c1]
  rw [c1] at h2
  have a0 : D2 152 0 = D 152 0 := by rw [f2 152 0 (by unfold mbF; omega), f1 152 0 (by unfold pkF; omega)]
  have r0 : mrow D2 0 = zfr (cFill (mcup D)) := congrArg (fun s : Sv => sAl s) h2
  have r1 : mrow D2 1 = zfr (cFill (mcup D)) := congrArg (fun s : Sv => sAc s) h2
  have rim : D2 152 1 = cRim (mcup D) := congrArg (fun q : Cv => q.2.1) c2
  refine ⟨rfl, cV (C_mlean (D := D2) (r := 0) (tilt := tilt) (Or.inl rfl) (by rw [a0]; exact hmb.1) (by rw [a0]; exact hmb.2) (by have := hc.2.2.1; omega) (fun k a b => ?_)) ?_⟩
  · have e : cut 20 (fun k => D2 156 (20 * 0 + k)) = cut 20 (fun _ => 0) := congrArg (fun q : Rv => q.2.1) r0
    have hk : 0 ≤ k := by have := hmb.1; omega
    exact cut_eq e hk b
  rintro m ⟨D3, rfl, f3, h3⟩
  rw [c2, r0] at h3
  have c3 : mcup D3 = mcup D := by rw [mcup_fr f3 (fun j x y => by unfold mlF; omega) (fun q j x y => by unfold mlF; omega), c2]
  have a3 : D3 152 0 = D 152 0 := by rw [f3 152 0 (by unfold mlF; omega), a0]
  have s3 : sAl (mst D3) = zlr (mcup D) tilt 0 := h3
  have r31 : mrow D3 1 = zfr (cFill (mcup D)) := by rw [mrow_fr f3 (fun k a b => by unfold mlF; omega) (fun k a b => by unfold mlF; omega) (by unfold mlF; omega), r1]
  have t3 : D3 152 5 = 0 := by
    rw [f3 152 5 (by unfold mlF; omega)]
    exact congrArg (fun s : Sv => s.1) h2
  have ok3 : SOK (mst D3) := by
    refine ⟨by rw [s3]; exact HOK_lean0 hc, ?_, ?_⟩
    · show HOK (mrow D3 1).1
      rw [r31]
      exact HOK_fresh hc.2.2.2.2.1 (by have := hc.2.2.2.2.2.1; have := hc.2.2.2.1; omega)
    · show 0 ≤ D3 152 5
      omega
  have fr3 : Fr lgF D D3 := ((f1.mono (fun q j z => by unfold pkF at z; unfold lgF mrF; omega)).trans (f2.mono (fun q j z => by unfold mbF at z; unfold lgF mrF mgF; omega))).trans (f3.mono (fun q j z => by unfold mlF at z; unfold lgF mrF mgF; omega))
  have k3 : mkv D3 177 (105 * 3) = mst D := by
    rw [← k1]
    exact mkv_ext (fun o a b => by rw [f3 177 _ (by unfold mlF; omega), f2 177 _ (by unfold mbF; omega)])
  refine ⟨rfl, cP (C_mslope (D := D3) (by rw [a3]; exact hmb.1) (by rw [a3]; exact hmb.2)) ⟨rfl, bnd (N := 402) rfl (by decide) (by decide), fun m5 e5 => ?_⟩⟩
  have e5 : m5 = (wr D3 178 0 (zslope (mcup D3) (sAl (mst D3))), rho n1 W) := e5
  subst e5
  have f4 : Fr (fun q _ => q = 178) D3 (wr D3 178 0 (zslope (mcup D3) (sAl (mst D3)))) := Fr.refl.wr rfl
  refine Wp.loop (σ := Int) (fun k => [some (vr 152), some (vi tilt), some (vi n), some (vi k)])
    (fun k μ => ∃ H : DD, μ = (H, rho n1 W) ∧ Fr lgF D H ∧ mkv H 177 (105 * 3) = mst D ∧ 1 ≤ k ∧ k ≤ n + 1 ∧ SOK (mst H) ∧ sTick (mst H) = k - 1 ∧ sAl (mst H) = zlr (mcup D) tilt (k - 1).toNat ∧ ∀ j, 0 ≤ j → j < k → H 178 j = zlg (mcup D) tilt j)
    (fun k => (n + 1 - k).toNat) ?_ 1 _ ⟨_, rfl, fr3.trans (f4.mono (fun q j z => Or.inr z)), ?_, by decide, by omega, ?_, ?_, ?_, ?_⟩
  rotate_left
  · rw [← k3]
    exact mkv_ext (fun o a b => f4 177 _ (by omega))
  · rw [mst_fr f4 (by omega) (by omega) (fun q j x y => by omega)]
    exact ok3
  · rw [mst_fr f4 (by omega) (by omega) (fun q j x y => by omega)]
    exact t3
  · rw [mst_fr f4 (by omega) (by omega) (fun q j x y => by omega)]
    exact s3
  · intro j j0 j1
    have : j = 0 := by omega
    rw [this, wr_at, c3, s3]
    rfl
  rintro k μ ⟨H, rfl, hF, hk, k0, k1', ok, ht, hr, hv⟩ ih
  have cH : mcup H = mcup D := mcup_fr hF (fun j x y => by unfold lgF mrF mgF; omega) (fun q j x y => by unfold lgF mrF mgF; omega)
  have aH : H 152 0 = D 152 0 := hF 152 0 (by unfold lgF mrF mgF; omega)
  refine sg_X10_letGo_27 ⟨fun cc => ⟨rfl, cV (C_mbringBack (D := H) (i := 3) (by decide) (by decide)) ?_⟩, fun cc => ⟨rfl, cI (C_mpass (D := H) (pa := 0) (pc := 0) (by rw [aH]; exact hmb.1) (by rw [aH]; exact hmb.2) ok) ?_⟩⟩
  · rintro m ⟨G, rfl, f6, h6⟩
    refine ⟨rfl, G, rfl, hF.trans (f6.mono (fun q j z => by unfold bbF at z; unfold lgF mrF mgF; omega)), by rw [h6, hk], fun j j0 j1 => ?_⟩
    rw [f6 178 j (by unfold bbF; omega)]
    exact hv j j0 (by omega)
  · rintro x m ⟨H1, rfl, f7, h7⟩
    rw [cH] at h7
    have h7 : mst H1 = (ztick (mcup D) 0 0 (mst H)).2 := congrArg Prod.snd h7
    obtain ⟨ok1, -, -, t1⟩ := ztick_phys (pa := 0) (pc := 0) hc ok (by omega)
    have aH1 : H1 152 0 = D 152 0 := by rw [f7 152 0 (by unfold mpsF; omega), aH]
    have cH1 : mcup H1 = mcup D := by rw [mcup_fr f7 (fun j x y => by unfold mpsF; omega) (fun q j x y => by unfold mpsF; omega), cH]
    have rH1 : sAl (mst H1) = zlr (mcup D) tilt k.toNat := by
      rw [h7, show k.toNat = (k - 1).toNat + 1 by omega]
      show (zrow (mcup D) 0 (sAl (mst H))).2 = _
      rw [hr]
      rfl
    refine ⟨rfl, cP (C_mslope (D := H1) (by rw [aH1]; exact hmb.1) (by rw [aH1]; exact hmb.2)) ⟨rfl, bnd (N := 402) rfl (by omega) (by show k < 402; omega), fun m4 e4 v ev => ?_⟩⟩
    have e4 : m4 = (wr H1 178 k (zslope (mcup H1) (sAl (mst H1))), rho n1 W) := e4
    subst e4
    rw [w32_id (by omega) (by omega)] at ev
    subst ev
    have f8 : Fr (fun q _ => q = 178) H1 (wr H1 178 k (zslope (mcup H1) (sAl (mst H1)))) := Fr.refl.wr rfl
    have s8 : mst (wr H1 178 k (zslope (mcup H1) (sAl (mst H1)))) = mst H1 := mst_fr f8 (by omega) (by omega) (fun q j x y => by omega)
    refine ih (k + 1) _ ⟨_, rfl, (hF.trans (f7.mono (fun q j z => by unfold mpsF at z; unfold lgF mrF mgF; omega))).trans (f8.mono (fun q j z => Or.inr z)), ?_, by omega, by omega, by rw [s8, h7]; exact ok1, by rw [s8, h7, t1]; omega, by rw [s8, rH1, show k + 1 - 1 = k by omega], fun j j0 j1 => ?_⟩ (by omega)
    · rw [← hk]
      exact mkv_ext (fun o a b => by rw [f8 177 _ (by omega), f7 177 _ (by unfold mpsF; omega)])
    · by_cases q : j = k
      · rw [q, wr_at, cH1, rH1]
        rfl
      · rw [wr_j q, f7 178 j (by unfold mpsF; omega)]
        exact hv j j0 (by omega)
theorem C_misTilt {x : Int} {μ : Mem} : Cl (d + 1) 0 0 mX10_isTilt [vi x] μ (KI (fun r m => r = bi (1 ≤ x ∧ x ≤ 500) ∧ m = μ)) :=
  Cl_of mb_X10_isTilt (Nat.le_of_ble_eq_true rfl) (sg_X10_isTilt_0 (cP C_in ⟨bi_or, _, rfl, rfl, rfl⟩))
theorem C_mswing {tilt : Int} (hm : MRun D lw) : Cl (d + 5) 0 0 mX10_swing [vr 152, vi tilt] (D, rho n1 W) (KI (Was n1 D W (S_swing (mcup D) tilt))) := by
  refine Cl_of mb_X10_swing (Nat.le_of_ble_eq_true rfl) (sg_X10_swing_0 ⟨rfl, fun m1 e1 => ?_⟩)
  obtain ⟨E, hE⟩ : ∃ E, E = wr D 152 15 0 := ⟨_, rfl⟩
  have e1 : m1 = (E, rho n1 W) := by rw [hE]; exact e1
  subst e1
  have h0 : MAc D W E W (mcup D) := MAc.beg hE
  have cE : mcup E = mcup D := h0.2.2.2.1
  refine cB C_misTilt (fun hi => yN ⟨rfl, cV (C_mletGo (D := E) (tilt := tilt) (n := 400) (by rw [cE]; exact hm.2.1) (by decide) (by decide)) ?_⟩) (fun hi => nN ⟨_, rfl, Was_no h0 (by unfold S_swing; rw [if_neg hi]) (by unfold S_swing; rw [if_neg hi])⟩)
  rintro m ⟨F, rfl, f, hs, hv⟩
  rw [cE] at hv
  have h := h0.lg f hs
  have hS : S_swing (mcup D) tilt = if zswing (mcup D) tilt = -2 then (-2, none) else (zswing (mcup D) tilt, some [zlg (mcup D) tilt 0, zlg (mcup D) tilt (zswing (mcup D) tilt)]) := if_pos hi
  generalize S_swing (mcup D) tilt = S at hS ⊢
  obtain ⟨z, hz⟩ : ∃ z, z = zswing (mcup D) tilt := ⟨_, rfl⟩
  rw [← hz] at hS
  have hz : z = zfirst (fun k => decide (zlg (mcup D) tilt (k - 1) < zlg (mcup D) tilt k ∧ zlg (mcup D) tilt (k + 1) ≤ zlg (mcup D) tilt k)) 398 2 := hz
  refine Wp.loop (σ := Int) (fun k => [some (vr 152), some (vi tilt), some (vi k)])
    (fun k μ => μ = (F, rho n1 W) ∧ 2 ≤ k ∧ k ≤ 400 ∧ z = zfirst (fun k => decide (zlg (mcup D) tilt (k - 1) < zlg (mcup D) tilt k ∧ zlg (mcup D) tilt (k + 1) ≤ zlg (mcup D) tilt k)) (400 - k).toNat k)
    (fun k => (400 - k).toNat) ?_ 2 _ ⟨rfl, by decide, by decide, hz⟩
  clear hz
  rintro k μ ⟨rfl, k0, k1, hz⟩ ih
  have wm : w32 (k - 1) = k - 1 := w32_id (by omega) (by omega)
  have wp : w32 (k + 1) = k + 1 := w32_id (by omega) (by omega)
  have v0 : k < 400 → mD (F, rho n1 W) (mR (F, rho n1 W) 152 47) k = zlg (mcup D) tilt k := fun _ => hv k (by omega) (by omega)
  have v1 : k < 400 → mD (F, rho n1 W) (mR (F, rho n1 W) 152 47) (k - 1) = zlg (mcup D) tilt (k - 1) := fun _ => hv (k - 1) (by omega) (by omega)
  have v2 : k < 400 → mD (F, rho n1 W) (mR (F, rho n1 W) 152 47) (k + 1) = zlg (mcup D) tilt (k + 1) := fun _ => hv (k + 1) (by omega) (by omega)
  have hf : k < 400 → z = if decide (zlg (mcup D) tilt (k - 1) < zlg (mcup D) tilt k ∧ zlg (mcup D) tilt (k + 1) ≤ zlg (mcup D) tilt k) = true then k else zfirst (fun k => decide (zlg (mcup D) tilt (k - 1) < zlg (mcup D) tilt k ∧ zlg (mcup D) tilt (k + 1) ≤ zlg (mcup D) tilt k)) (400 - (k + 1)).toNat (k + 1) := fun q => by
    rw [hz, show (400 - k).toNat = (400 - (k + 1)).toNat + 1 by omega]
    rfl
  refine sg_X10_swing_24 ⟨fun c => ⟨_, rfl, ?_⟩, fun c => ⟨rfl, Or.inl rfl, bnd (N := 402) rfl (by omega) (by show k < 402; omega), ?_⟩⟩
  · have : z = -2 := by
      rw [hz, show (400 - k).toNat = 0 by omega]
      rfl
    rw [if_pos this] at hS
    exact Was_no h (by rw [hS]) (by rw [hS])
  rw [wm, wp, v0 (by omega), v1 (by omega), v2 (by omega)]
  have hf := hf (by omega)
  refine ⟨bnd (N := 402) rfl (by omega) (by show k - 1 < 402; omega), fun c2 v ev => ?_, fun c2 => ⟨bnd (N := 402) rfl (by omega) (by show k < 402; omega), bnd (N := 402) rfl (by omega) (by show k + 1 < 402; omega), fun c3 m1 e1 => ?_, fun c3 v ev => ?_⟩⟩
  · subst ev
    rw [if_neg (fun q => by have := of_decide_eq_true q; omega)] at hf
    exact ih (k + 1) _ ⟨rfl, by omega, by omega, hf⟩ (by omega)
  · rw [if_pos (decide_eq_true ⟨by omega, c3⟩)] at hf
    subst hf
    rw [if_neg (by omega)] at hS
    have e1 : m1 = (wr F 152 14 0, rho n1 W) := e1
    subst e1
    refine ⟨bnd (N := 402) rfl (by decide) (by decide), cV (C_mtl (MTl.beg (E := F)) (by decide)) ?_⟩
    rintro m ⟨G1, rfl, g1⟩
    refine ⟨rfl, Or.inl rfl, bnd (N := 402) rfl (by omega) (by show z < 402; omega), cV (C_mtl g1 (by simp)) ?_⟩
    rintro m ⟨G2, rfl, g2⟩
    refine ⟨_, rfl, Was_tell h g2 (by rw [hS]) ?_⟩
    rw [hS]
    show some [zlg (mcup D) tilt 0, zlg (mcup D) tilt z] = some [wr F 152 14 0 178 0, G1 178 z]
    rw [wr_o (by decide), g1.1 178 z (by unfold mtF; omega), hv 0 (by decide) (by decide), hv z (by omega) (by omega)]
  · subst ev
    rw [if_neg (fun q => by have := of_decide_eq_true q; omega)] at hf
    exact ih (k + 1) _ ⟨rfl, by omega, by omega, hf⟩ (by omega)
theorem C_mdies {tilt part : Int} (hm : MRun D lw) : Cl (d + 5) 0 0 mX10_dies [vr 152, vi tilt, vi part] (D, rho n1 W) (KI (Was n1 D W (S_dies (mcup D) tilt part))) := by
  refine Cl_of mb_X10_dies (Nat.le_of_ble_eq_true rfl) (sg_X10_dies_0 ⟨rfl, fun m1 e1 => ?_⟩)
  obtain ⟨E, hE⟩ : ∃ E, E = wr D 152 15 0 := ⟨_, rfl⟩
  have e1 : m1 = (E, rho n1 W) := by rw [hE]; exact e1
  subst e1
  have h0 : MAc D W E W (mcup D) := MAc.beg hE
  have cE : mcup E = mcup D := h0.2.2.2.1
  refine cB C_misTilt (fun hi => yE (cB C_in (fun hp => yN ⟨rfl, cV (C_mletGo (D := E) (tilt := tilt) (n := 400) (by rw [cE]; exact hm.2.1) (by decide) (by decide)) ?_⟩) (fun hp => nN ⟨_, rfl, Was_no h0 (if_neg (fun q => hp q.2)).symm rfl⟩))) (fun hi => nE ⟨_, rfl, Was_no h0 (if_neg (fun q => hi q.1)).symm rfl⟩)
  rintro m ⟨F, rfl, f, hs, hv⟩
  rw [cE] at hv
  have h := h0.lg f hs
  have hS : (S_dies (mcup D) tilt part).1 = if 400 < zdies (mcup D) tilt part then -2 else zdies (mcup D) tilt part := if_pos ⟨hi, hp⟩
  have hS2 : (S_dies (mcup D) tilt part).2 = none := rfl
  generalize S_dies (mcup D) tilt part = S at hS hS2 ⊢
  refine ⟨rfl, Or.inl rfl, bnd (N := 402) rfl (by decide) (by decide), cP C_absz fun v1 ev => ?_⟩
  obtain ⟨most, hmost⟩ : ∃ most, most = w32 ((w32 (zabs (zlg (mcup D) tilt 0) * part)).tdiv 100) := ⟨_, rfl⟩
  have ev : v1 = most := by
    rw [ev, hmost, show mD (F, rho n1 W) (mR (F, rho n1 W) 152 47) 0 = zlg (mcup D) tilt 0 from hv 0 (by decide) (by decide)]
  subst ev
  obtain ⟨z, hz⟩ : ∃ z, z = zdies (mcup D) tilt part := ⟨_, rfl⟩
  rw [← hz] at hS
  have hz : z = zdie (mcup D) tilt v1 401 := by rw [hz, hmost]; rfl
  have s79 : ∀ k, k = z → Wp (d + 5) 0 0 mX10_dies 79 [some (vr 152), some (vi tilt), some (vi part), some (vi v1), some (vi k)] [] (F, rho n1 W) (KI (Was n1 D W S)) := by
    rintro k rfl
    refine sg_X10_dies_79 ⟨fun c => ⟨_, rfl, Was_no h ?_ hS2⟩, fun c => ⟨_, rfl, Was_no h ?_ hS2⟩⟩
    · rw [hS, if_neg (by omega)]
    · rw [hS, if_pos (by omega)]
  refine Wp.loop (σ := Int) (fun k => [some (vr 152), some (vi tilt), some (vi part), some (vi v1), some (vi k)])
    (fun k μ => μ = (F, rho n1 W) ∧ 0 ≤ k ∧ k ≤ 401 ∧ z = zdie (mcup D) tilt v1 k.toNat)
    (fun k => k.toNat) ?_ 401 _ ⟨rfl, by decide, by decide, hz⟩
  rintro k μ ⟨rfl, k0, k1, hk⟩ ih
  refine sg_X10_dies_52 ⟨fun c => s79 k ?_, fun c => ⟨rfl, Or.inl rfl, ?_⟩⟩
  · rw [hk, show k.toNat = 0 by omega]
    show k = 0
    omega
  rw [w32_id (x := k - 1) (by omega) (by omega)]
  refine ⟨bnd (N := 402) rfl (by omega) (by show k - 1 < 402; omega), cP C_absz ?_⟩
  rw [show mD (F, rho n1 W) (mR (F, rho n1 W) 152 47) (k - 1) = zlg (mcup D) tilt (k - 1) from hv (k - 1) (by omega) (by omega)]
  rw [show k.toNat = (k - 1).toNat + 1 by omega] at hk
  change z = if zabs (zlg (mcup D) tilt ((k - 1).toNat : Nat)) ≤ v1 then zdie (mcup D) tilt v1 (k - 1).toNat else (((k - 1).toNat : Nat) : Int) + 1 at hk
  rw [show (((k - 1).toNat : Nat) : Int) = k - 1 by omega] at hk
  refine ⟨fun c2 => s79 k ?_, fun c2 v ev => ?_⟩
  · rw [hk, if_neg (by omega)]
    omega
  · rw [w32_id (by omega) (by omega)] at ev
    subst ev
    rw [if_pos (by omega)] at hk
    exact ih (k + -1) _ ⟨rfl, by omega, by omega, hk⟩ (by omega)
theorem C_mgreatestSlope {tilt n fo : Int} (hm : MRun D lw) (h0 : MAc D W E V (mcup D)) (n0 : 1 ≤ n) (n400 : n ≤ 400) (f0 : 0 ≤ fo) (f9 : fo ≤ 9) : Cl (d + 5) 0 0 mX10_greatestSlope [vr 152, vi tilt, vi n, vi fo] (E, rho n1 V) (KI (fun x m => x = zlate (mcup D) tilt n fo ∧ ∃ E' : DD, m = (E', rho n1 V) ∧ MAc D W E' V (mcup D))) := by
  refine Cl_of mb_X10_greatestSlope (Nat.le_of_ble_eq_true rfl) (sg_X10_greatestSlope_0 ⟨rfl, Or.inl rfl, bnd (N := 7) rfl (by decide) (by decide), fun v1 ev => ⟨rfl, bnd (N := 7) rfl (by decide) (by decide), fun m1 e1 => ?_⟩⟩)
  have ev : v1 = cSet (mcup D) 2 := by
    rw [ev, ← h0.2.2.2.1]
    exact (cut_in (n := 7) (f := E 153) (k := 2) (by decide) (by decide)).symm
  subst ev
  have e1 : m1 = (wr E 153 2 fo, rho n1 V) := e1
  subst e1
  have h1 := h0.set (k := 2) (v := fo) (by decide) (by decide)
  have cc : COK (zSet (mcup D) 2 fo) := COK_set hm.2.1 (Or.inl ⟨rfl, f0, f9⟩)
  refine cV (C_mletGo (D := wr E 153 2 fo) (tilt := tilt) (n := n) (by rw [h1.2.2.2.1]; exact cc) (by omega) n400) ?_
  rintro m ⟨F, rfl, f, hs, hv⟩
  rw [h1.2.2.2.1] at hv
  have h2 := h1.lg f hs
  refine ⟨rfl, rfl, bnd (N := 7) rfl (by decide) (by decide), fun m3 e3 => ?_⟩
  obtain ⟨G, hG⟩ : ∃ G, G = wr F 153 2 (cSet (mcup D) 2) := ⟨_, rfl⟩
  have e3 : m3 = (G, rho n1 V) := by rw [hG]; exact e3
  subst e3
  have h3 : MAc D W G V (mcup D) := by
    rw [hG]
    exact (h2.set (k := 2) (v := cSet (mcup D) 2) (by decide) (by decide)).eq zSet_back
  have g175 : ∀ k, 0 ≤ k → k ≤ n → G 178 k = zlg (zSet (mcup D) 2 fo) tilt k := fun k a b => by
    rw [hG, wr_o (by decide)]
    exact hv k a b
  refine cP C_max ?_
  obtain ⟨i0, hi0⟩ : ∃ i0, i0 = max 1 (w32 (n.tdiv 2)) := ⟨_, rfl⟩
  have n2 : w32 (n.tdiv 2) = n / 2 := by rw [Int.tdiv_eq_ediv_of_nonneg (by omega), w32_id (by omega) (by omega)]
  have i1 : 1 ≤ i0 ∧ i0 ≤ n := by rw [hi0, n2]; omega
  have hz : zlate (mcup D) tilt n fo = zgr (zSet (mcup D) 2 fo) tilt i0 (n + 1 - i0).toNat := by rw [hi0]; rfl
  rw [← hi0, hz]
  refine Wp.loop (σ := Int × Int) (fun σ => [some (vr 152), some (vi tilt), some (vi n), some (vi fo), some (vi (cSet (mcup D) 2)), some (vi σ.1), some (vi σ.2)])
    (fun σ μ => μ = (G, rho n1 V) ∧ i0 ≤ σ.2 ∧ σ.2 ≤ n + 1 ∧ σ.1 = zgr (zSet (mcup D) 2 fo) tilt i0 (σ.2 - i0).toNat)
    (fun σ => (n + 1 - σ.2).toNat) ?_ (0, i0) _ ⟨rfl, Int.le_refl _, by dsimp only; omega, by dsimp only; rw [show (i0 - i0).toNat = 0 by omega]; rfl⟩
  rintro ⟨v, k⟩ μ ⟨rfl, k0, k1, hk⟩ ih
  dsimp only at k0 k1 hk ih ⊢
  refine sg_X10_greatestSlope_41 ⟨fun c => ⟨_, rfl, ?_, G, rfl, h3⟩, fun c => ⟨rfl, Or.inl rfl, bnd (N := 402) rfl (by omega) (by show k < 402; omega), cP C_absz (cP C_max fun v1 e1 => ?_)⟩⟩
  · rw [hk, show k = n + 1 by omega]
  · rw [w32_id (by omega) (by omega)] at e1
    subst e1
    refine ih (_, k + 1) _ ⟨rfl, by dsimp only; omega, by dsimp only; omega, ?_⟩ (by dsimp only; omega)
    dsimp only
    rw [show (k + 1 - i0).toNat = (k - i0).toNat + 1 by omega]
    show max v (zabs (G 178 k)) = max (zgr (zSet (mcup D) 2 fo) tilt i0 (k - i0).toNat) (zabs (zlg (zSet (mcup D) 2 fo) tilt (i0 + ((k - i0).toNat : Nat))))
    rw [← hk, show i0 + (((k - i0).toNat : Nat) : Int) = k by omega, g175 k (by omega) (by omega)]
theorem zlg_rng {c : Cv} {tilt : Int} (hc : COK c) : ∀ n : Nat, HOK (zlr c tilt n).1
  | 0 => HOK_lean0 hc
  | n + 1 => (zrow_phys (push := 0) hc (zlg_rng hc n)).1
theorem zgr_rng {c : Cv} {tilt i0 : Int} (hc : COK c) : ∀ n : Nat, 0 ≤ zgr c tilt i0 n ∧ zgr c tilt i0 n ≤ 20000
  | 0 => ⟨Int.le_refl 0, by show (0 : Int) ≤ 20000; decide⟩
  | n + 1 => by
    obtain ⟨a, b⟩ := zgr_rng (tilt := tilt) (i0 := i0) hc n
    have hh := zlg_rng (tilt := tilt) hc (i0 + (n : Int)).toNat
    obtain ⟨l0, l1, -⟩ := hc
    have x0 := hh.at (j := 0) (by decide) (by decide)
    have x1 := hh.at (j := cLast c) (by omega) (by omega)
    have e : zlg c tilt (i0 + n) = (zlr c tilt (i0 + (n : Int)).toNat).1 0 - (zlr c tilt (i0 + (n : Int)).toNat).1 (cLast c) := w32_id (by omega) (by omega)
    show 0 ≤ max (zgr c tilt i0 n) (zabs (zlg c tilt (i0 + n))) ∧ max (zgr c tilt i0 n) (zabs (zlg c tilt (i0 + n))) ≤ 20000
    have hz : 0 ≤ zabs (zlg c tilt (i0 + n)) ∧ zabs (zlg c tilt (i0 + n)) ≤ 20000 := by
      rw [e]
      unfold zabs
      split
      · rw [w32_id (by omega) (by omega)]
        omega
      · omega
    omega
theorem C_moff {tilt n k : Int} (hm : MRun D lw) : Cl (d + 45) 0 0 mX10_off [vr 152, vi tilt, vi n, vi k] (D, rho n1 W) (KI (Was n1 D W (S_off (mcup D) tilt n k))) := by
  refine Cl_of mb_X10_off (Nat.le_of_ble_eq_true rfl) (sg_X10_off_0 ⟨rfl, fun m1 e1 => ?_⟩)
  obtain ⟨E, hE⟩ : ∃ E, E = wr D 152 15 0 := ⟨_, rfl⟩
  have e1 : m1 = (E, rho n1 W) := by rw [hE]; exact e1
  subst e1
  have h0 : MAc D W E W (mcup D) := MAc.beg hE
  have no : ¬ ((1 ≤ tilt ∧ tilt ≤ 500) ∧ (1 ≤ n ∧ n ≤ 400) ∧ (0 ≤ k ∧ k ≤ 9)) → Was n1 D W (S_off (mcup D) tilt n k) (-1) (E, rho n1 W) := fun h => Was_no h0 (by unfold S_off; rw [if_neg h]) (by unfold S_off; rw [if_neg h])
  refine cB C_misTilt (fun hi => yE (cB C_in (fun hn => yE (cB C_in (fun hk => yN ⟨rfl, cI (C_mgreatestSlope hm h0 hn.1 hn.2 hk.1 hk.2) ?_⟩) (fun hk => nN ⟨_, rfl, no (fun q => hk q.2.2)⟩))) (fun hn => nE ⟨_, rfl, no (fun q => hn q.2.1)⟩))) (fun hi => nE ⟨_, rfl, no (fun q => hi q.1)⟩)
  rintro x4 m ⟨hx4, F, rfl, h1⟩
  refine ⟨rfl, cI (C_mgreatestSlope (tilt := tilt) (n := n) (fo := 0) hm h1 hn.1 hn.2 (by decide) (by decide)) ?_⟩
  rintro x5 m ⟨hx5, G, rfl, h2⟩
  have hS : S_off (mcup D) tilt n k = (0, some [x4, x5, zup (if x5 = 0 then 0 else w32 (x5 - x4)) x5, zlow (if x5 = 0 then 0 else w32 (x5 - x4)) x5]) := by
    rw [hx4, hx5]
    exact if_pos ⟨hi, hn, hk⟩
  have b4 : 0 ≤ x4 ∧ x4 ≤ 20000 := by
    rw [hx4]
    exact zgr_rng (COK_set hm.2.1 (Or.inl ⟨rfl, hk.1, hk.2⟩)) _
  have b5 : 0 ≤ x5 ∧ x5 ≤ 20000 := by
    rw [hx5]
    exact zgr_rng (COK_set hm.2.1 (Or.inl ⟨rfl, by decide, by decide⟩)) _
  refine ⟨rfl, fun m7 e7 => ?_⟩
  have e7 : m7 = (wr G 152 14 0, rho n1 W) := e7
  subst e7
  refine cV (C_mtl (MTl.beg (E := G)) (by decide)) ?_
  rintro m ⟨G1, rfl, g1⟩
  refine ⟨rfl, cV (C_mtl g1 (by simp)) ?_⟩
  rintro m ⟨G2, rfl, g2⟩
  refine ⟨fun c => ⟨rfl, ?_⟩, fun c => ⟨rfl, ?_⟩⟩
  · rw [if_neg c] at hS
    have ew : w32 (x5 - x4) = x5 - x4 := w32_id (by omega) (by omega)
    rw [ew] at hS ⊢
    refine cV (C_mtellPart (u := x5 - x4) (lo := x5) (by omega) (by omega) g2 (by simp)) ?_
    rintro m ⟨G3, rfl, g3⟩
    exact ⟨_, rfl, Was_tell h2 g3 (by rw [hS]) (by rw [hS]; rfl)⟩
  · rw [if_pos c] at hS
    refine cV (C_mtellPart (u := 0) (lo := 1) (by omega) (by omega) g2 (by simp)) ?_
    rintro m ⟨G3, rfl, g3⟩
    refine ⟨_, rfl, Was_tell h2 g3 (by rw [hS]) ?_⟩
    rw [hS, c]
    rfl
end MLG
