/-! ===== the model is asked, 5: form, worst, stop ===== -/
def drS (r : Int) (s : Sv) : Sv := (sTick s, r, s.2.2)
def drZ (r : Int) (z : Zr) : Zr := (drS r (zS z), z.2)
theorem zcarry_dr {c : Cv} {L : Option (List Int)} {w : Wv} {i t r : Int} {s : Sv} (hw : ¬ 0 < wWan w i) : zcarry c L w i t (drS r s) = ((zcarry c L w i t s).1, drS r (zcarry c L w i t s).2) := by
  have e1 : zwans (wWan w i) (drS r s) = drS r s := if_neg hw
  have e2 : zwans (wWan w i) s = s := if_neg hw
  have e3 : zwan (wWan w i) (drS r s) = 0 := if_neg hw
  have e4 : zwan (wWan w i) s = 0 := if_neg hw
  unfold zcarry
  rw [e1, e2, e3, e4]
  by_cases q : t = 0
  · rw [if_pos q, if_pos q]
    rfl
  · rw [if_neg q, if_neg q]
    rfl
theorem zrun_dr {cap : Nat} {c : Cv} {L : Option (List Int)} {w : Wv} {t : Int → Int} {r : Int} (hw : ∀ i, ¬ 0 < wWan w i) : ∀ {n : Nat} {i : Int} {z : Zr}, zrun cap c L w t n i (drZ r z) = drZ r (zrun cap c L w t n i z)
  | 0, _, _ => rfl
  | n + 1, i, z => by
    rw [zrun_s, zrun_s]
    have e : znote cap c (zcarry c L w i (t i) (zS (drZ r z))) (drZ r z) = drZ r (znote cap c (zcarry c L w i (t i) (zS z)) z) := by
      show znote cap c (zcarry c L w i (t i) (drS r (zS z))) (drZ r z) = _
      rw [zcarry_dr (hw i)]
      rfl
    rw [e, zrun_dr hw]
theorem zOut_dr {c : Cv} {L : Option (List Int)} {w : Wv} {t : Int → Int} {n : Nat} {i r : Int} (hw : ∀ i, ¬ 0 < wWan w i) : zOut c L w t n i r = zOut c L w t n i 1 := by
  have e : zbeg0 c r = drZ r (zbeg0 c 1) := rfl
  unfold zOut
  rw [e, zrun_dr hw]
  rfl
theorem wSteps'_wan {push n sway times : Int} (i : Int) : ¬ 0 < wWan (wSteps' w0 0 push n sway times) i := by
  show ¬ 0 < ext (fun _ => 0) _ _ (fun _ => 0) i
  unfold ext
  split <;> exact Int.lt_irrefl 0
theorem wBrake_wan {speed n : Int} (i : Int) : ¬ 0 < wWan (wBrake speed n) i := by
  show ¬ 0 < ext (fun _ => 0) _ _ (fun _ => 0) i
  unfold ext
  split <;> exact Int.lt_irrefl 0
def Zmx (f ix : Nat → Int) (n : Nat) (fd ls : Int) : Prop := (n = 0 ∧ fd = -1 ∧ ls = 0) ∨ (1 ≤ n ∧ fd ≠ -1 ∧ (fd, ls) = zmx f ix n)
section ZMX
variable {f ix : Nat → Int} {n : Nat} {fd ls x v : Int}
theorem Zmx.first (h : Zmx f ix n fd ls) (e : fd = -1) (hx : f n = x) (hv : ix n = v) (hb : 0 ≤ x) (hi : v ≠ -1) : Zmx f ix (n + 1) v x := by
  subst hx hv
  rcases h with ⟨h1, -, -⟩ | ⟨-, h2, -⟩
  · subst h1
    refine Or.inr ⟨by omega, hi, ?_⟩
    show _ = if (-1 : Int) < f 0 then (ix 0, f 0) else _
    rw [if_pos (by omega)]
  · exact absurd e h2
theorem Zmx.more (h : Zmx f ix n fd ls) (e : ¬ fd = -1) (hx : f n = x) (hv : ix n = v) (hl : ls < x) (hi : v ≠ -1) : Zmx f ix (n + 1) v x := by
  subst hx hv
  rcases h with ⟨-, h1, -⟩ | ⟨-, -, h3⟩
  · exact absurd h1 e
  · refine Or.inr ⟨by omega, hi, ?_⟩
    show _ = if (zmx f ix n).2 < f n then (ix n, f n) else _
    rw [← h3, if_pos hl]
theorem Zmx.keep (h : Zmx f ix n fd ls) (e : ¬ fd = -1) (hx : f n = x) (hl : ¬ ls < x) : Zmx f ix (n + 1) fd ls := by
  subst hx
  rcases h with ⟨-, h1, -⟩ | ⟨-, h2, h3⟩
  · exact absurd h1 e
  · refine Or.inr ⟨by omega, h2, ?_⟩
    show _ = if (zmx f ix n).2 < f n then (ix n, f n) else _
    rw [← h3, if_neg hl]
theorem Zmx.is (h : Zmx f ix n fd ls) (hn : 1 ≤ n) : fd = (zmx f ix n).1 ∧ ls = (zmx f ix n).2 := by
  rcases h with ⟨h1, -, -⟩ | ⟨-, -, h3⟩
  · omega
  · rw [← h3]
    exact ⟨rfl, rfl⟩
end ZMX
theorem zrun_gsl {cap : Nat} {c : Cv} {L : Option (List Int)} {w : Wv} {t : Int → Int} : ∀ {n : Nat} {i : Int} {z : Zr}, 0 ≤ zGsl z → 0 ≤ zGsl (zrun cap c L w t n i z)
  | 0, _, _, h => h
  | n + 1, i, z, h => by
    rw [zrun_s]
    refine zrun_gsl ?_
    show 0 ≤ max (zGsl z) _
    omega
section MA5
variable {d n1 : Nat} {W V : Nat → Nat} {D E : DD} {lw : Int → Option (List Int)} {c : Cv}
theorem C_mform {bits : Int} (hm : MRun D lw) : Cl (d + 131) 0 0 mX10_form [vr 152, vi bits] (D, rho n1 W) (KI (Was n1 D W (S_form (mcup D) (mhl D lw) (wkm D) bits))) := by
  refine Cl_of mb_X10_form (Nat.le_of_ble_eq_true rfl) (sg_X10_form_0 ⟨rfl, fun m1 e1 => ?_⟩)
  obtain ⟨E, hE⟩ : ∃ E, E = wr D 152 15 0 := ⟨_, rfl⟩
  have e1 : m1 = (E, rho n1 W) := by rw [hE]; exact e1
  subst e1
  have h0 : MAc D W E W (mcup D) := MAc.beg hE
  have cE : mcup E = mcup D := h0.2.2.2.1
  refine cB C_in (fun hb => yN ⟨rfl, fun v1 ev => ?_⟩) (fun hb => nN ⟨_, rfl, Was_no h0 (if_neg hb).symm rfl⟩)
  have a0 : E 152 0 = cLast (mcup D) + 1 := by
    have : E 152 0 - 1 = cLast (mcup D) := congrArg (fun q : Cv => q.1) cE
    omega
  have ev : v1 = cLast (mcup D) + 1 := ev.trans a0
  subst ev
  have hS : (S_form (mcup D) (mhl D lw) (wkm D) bits).1 = zfirst (fun k => zall (zform (mcup D) k) (mhl D lw) (wkm D) bits 4) 19 2 := if_pos hb
  have hS2 : (S_form (mcup D) (mhl D lw) (wkm D) bits).2 = none := rfl
  generalize S_form (mcup D) (mhl D lw) (wkm D) bits = S at hS hS2 ⊢
  -- what MAc asks of other memories
  have mac : ∀ {E E' : DD} {V : Nat → Nat} {c c' : Cv} {F : Nat → Int → Prop}, MAc D W E V c → Fr F E E' → (∀ q j, F q j → (q = 152 ∧ j = 0) ∨ q = 154 ∨ q = 185) → mcup E' = c' → MAc D W E' V c' := by
    rintro E E' V c c' F ⟨q1, q2, q3, q4, q5, q6⟩ f hF hc
    have hn : ∀ q j, ¬ ((q = 152 ∧ j = 0) ∨ q = 154 ∨ q = 185) → ¬ F q j := fun q j z y => z (hF q j y)
    refine ⟨q1, q2.trans (f.mono (fun q j z => by have := hF q j z; unfold maF; omega)), (mst_fr f (hn _ _ (by omega)) (hn _ _ (by omega)) (fun q j x y => hn _ _ (by omega))).trans q3, hc, by rw [f 152 15 (hn _ _ (by omega))]; exact q5, ?_⟩
    rw [← q6]
    unfold MTV mtoldv
    rw [f 152 14 (hn _ _ (by omega)), f.obj (o := 160) (fun j => hn _ _ (by omega))]
  have hH : ∀ k, 0 ≤ k → k < 20 → E 154 k = cHole (mcup D) k := fun k a b => by
    rw [← cE]
    exact (cut_in (n := 20) (f := E 154) a b).symm
  -- putting the holes back
  have s150 : ∀ (k x : Int) (G : DD) (V : Nat → Nat), MAc D W G V (zform (mcup D) k) → (∀ j, 0 ≤ j → j < 20 → G 185 j = cHole (mcup D) j) → x = S.1 → ∀ k0, Wp (d + 131) 0 0 mX10_form 142 [some (vr 152), some (vi bits), some (vi (cLast (mcup D) + 1)), some (vi x), some (vi k0), none, none] [] (G, rho n1 V) (KI (Was n1 D W S)) := by
    intro k x G V hG hP hx k0
    refine sg_X10_form_142 ⟨rfl, fun m1 e1 => ?_⟩
    have e1 : m1 = (wr G 152 0 (cLast (mcup D) + 1), rho n1 V) := e1
    subst e1
    obtain ⟨B, hB⟩ : ∃ B, B = wr G 152 0 (cLast (mcup D) + 1) := ⟨_, rfl⟩
    rw [← hB]
    have fB : Fr (fun q j => q = 152 ∧ j = 0) G B := by
      rw [hB]
      exact Fr.refl.wr ⟨rfl, rfl⟩
    have b0 : B 152 0 = cLast (mcup D) + 1 := by rw [hB, wr_at]
    refine Wp.loop (σ := Int) (fun i => [some (vr 152), some (vi bits), some (vi (cLast (mcup D) + 1)), some (vi x), some (vi i), none, none])
      (fun i μ => ∃ H : DD, μ = (H, rho n1 V) ∧ 0 ≤ i ∧ i ≤ 20 ∧ Fr (fun q _ => q = 154) B H ∧ ∀ j, 0 ≤ j → j < i → H 154 j = cHole (mcup D) j)
      (fun i => (20 - i).toNat) ?_ 0 _ ⟨B, rfl, by decide, by decide, Fr.refl, fun j a b => by omega⟩
    rintro i μ ⟨H, rfl, i0, i1, hF, hj⟩ ih
    refine sg_X10_form_150 ⟨fun cc => ⟨_, rfl, Was_no (E := H) ?_ hx hS2⟩, fun cc => ⟨rfl, Or.inl rfl, bnd (N := 20) rfl i0 (by omega), rfl, bnd (N := 20) rfl i0 (by omega), fun m1 e1 v ev => ?_⟩⟩
    · refine mac (hG) ((fB.mono (F' := fun q j => (q = 152 ∧ j = 0) ∨ q = 154) (fun q j z => Or.inl z)).trans (hF.mono (fun q j z => Or.inr z))) (fun q j z => by omega) ?_
      have g := hG.2.2.2.1
      unfold mcup zform at g
      simp only [Prod.mk.injEq] at g
      have : mcup D = (cLast (mcup D), cRim (mcup D), cFill (mcup D), cSet (mcup D), cut 20 (cHole (mcup D))) := by
        have e : cut 20 (cHole (mcup D)) = cHole (mcup D) := cut_cut
        rw [e]
        rfl
      rw [this]
      unfold mcup
      rw [hF 152 0 (by omega), hF 152 1 (by omega), hF 152 2 (by omega), hF.obj (o := 153) (fun j => by omega), fB 152 1 (by omega), fB 152 2 (by omega), fB.obj (o := 153) (fun j => by omega), b0, g.2.1, g.2.2.1, g.2.2.2.1, cut_ext (f := H 154) (g := cHole (mcup D)) (fun j a b => hj j a (by omega)), show cLast (mcup D) + 1 - 1 = cLast (mcup D) by omega]
      rfl
    · have h182 : H 185 i = cHole (mcup D) i := by
        rw [hF 185 i (by omega), fB 185 i (by omega)]
        exact hP i i0 (by omega)
      have e1 : m1 = (wr H 154 i (cHole (mcup D) i), rho n1 V) := by
        rw [← h182]
        exact e1
      subst e1
      rw [w32_id (by omega) (by omega)] at ev
      subst ev
      refine ih (i + 1) _ ⟨_, rfl, by omega, by omega, hF.wr rfl, fun j a b => ?_⟩ (by omega)
      by_cases q : j = i
      · rw [q, wr_at]
      · rw [wr_j q]
        exact hj j a (by omega)
  -- laying the holes aside
  refine Wp.loop (σ := Int) (fun i => [some (vr 152), some (vi bits), some (vi (cLast (mcup D) + 1)), some (vi i), none, none, none])
    (fun i μ => ∃ H : DD, μ = (H, rho n1 W) ∧ 0 ≤ i ∧ i ≤ 20 ∧ Fr (fun q _ => q = 154 ∨ q = 185) E H ∧ (∀ j, 0 ≤ j → j < i → H 154 j = 100 ∧ H 185 j = cHole (mcup D) j) ∧ ∀ j, i ≤ j → H 154 j = E 154 j)
    (fun i => (20 - i).toNat) ?_ 0 _ ⟨E, rfl, by decide, by decide, Fr.refl, fun j a b => by omega, fun j a => rfl⟩
  rintro i μ ⟨H, rfl, i0, i1, hF, hj, hj2⟩ ih
  refine sg_X10_form_24 ⟨fun cc => ?_, fun cc => ⟨rfl, Or.inl rfl, bnd (N := 20) rfl i0 (by omega), rfl, bnd (N := 20) rfl i0 (by omega), fun m1 e1 => ⟨?_, ?_, fun m2 e2 v ev => ?_⟩⟩⟩
  rotate_left
  · subst e1
    rfl
  · subst e1
    exact bnd (N := 20) rfl i0 (by omega)
  · have hi' : H 154 i = cHole (mcup D) i := by rw [hj2 i (Int.le_refl _)]; exact hH i i0 (by omega)
    have e1 : m1 = (wr H 185 i (cHole (mcup D) i), rho n1 W) := by
      rw [← hi']
      exact e1
    subst e1
    have e2 : m2 = (wr (wr H 185 i (cHole (mcup D) i)) 154 i 100, rho n1 W) := e2
    subst e2
    rw [w32_id (by omega) (by omega)] at ev
    subst ev
    refine ih (i + 1) _ ⟨_, rfl, by omega, by omega, (hF.wr (Or.inr rfl)).wr (Or.inl rfl), fun j a b => ?_, fun j a => ?_⟩ (by omega)
    · by_cases q : j = i
      · rw [q]
        exact ⟨wr_at, by rw [wr_o (by decide), wr_at]⟩
      · rw [wr_j q, wr_o (o := 154) (by decide), wr_o (o := 185) (by decide), wr_j q]
        exact hj j a (by omega)
    · rw [wr_j (by omega), wr_o (by decide)]
      exact hj2 j (by omega)
  have ei : i = 20 := by omega
  subst ei
  clear ih i0 i1 cc hj2
  have hA : MAc D W H W (zform (mcup D) (cLast (mcup D) + 1)) := by
    refine mac h0 hF (fun q j z => by omega) ?_
    unfold mcup
    rw [hF 152 0 (by omega), hF 152 1 (by omega), hF 152 2 (by omega), hF.obj (o := 153) (fun j => by omega), cut_ext (f := H 154) (g := fun _ => 100) (fun j a b => (hj j a b).1)]
    unfold mcup at cE
    simp only [Prod.mk.injEq] at cE
    unfold zform
    rw [a0, cE.2.1, cE.2.2.1, cE.2.2.2.1]
    rfl
  refine Wp.loop (σ := Int × Int) (fun σ => [some (vr 152), some (vi bits), some (vi (cLast (mcup D) + 1)), some (vi σ.1), some (vi σ.2), none, none])
    (fun σ μ => ∃ (G : DD) (V : Nat → Nat) (k : Int), μ = (G, rho n1 V) ∧ MAc D W G V (zform (mcup D) k) ∧ (∀ j, 0 ≤ j → j < 20 → G 185 j = cHole (mcup D) j) ∧ 2 ≤ σ.2 ∧ σ.2 ≤ 21 ∧ (σ.1 = -2 ∧ S.1 = zfirst (fun k => zall (zform (mcup D) k) (mhl D lw) (wkm D) bits 4) (21 - σ.2).toNat σ.2 ∨ 0 ≤ σ.1 ∧ σ.1 = S.1))
    (fun σ => (21 - σ.2).toNat) ?_ (-2, 2) _ ⟨H, W, _, rfl, hA, fun j a b => (hj j a b).2, by decide, by decide, Or.inl ⟨rfl, hS⟩⟩
  clear hA hj hF
  rintro ⟨x, k⟩ μ ⟨G, V, kk, rfl, hG, hP, k0, k1, hx⟩ ih
  dsimp only at k0 k1 hx ih ⊢
  refine sg_X10_form_62 ⟨fun cc => s150 kk x G V hG hP ?_ k, fun cc => ⟨fun c2 => s150 kk x G V hG hP ?_ k, fun c2 => ⟨rfl, fun m1 e1 => ?_⟩⟩⟩
  · rcases hx with ⟨q1, q2⟩ | ⟨-, q2⟩
    · rw [q2, q1, show (21 - k).toNat = 0 by omega]
      rfl
    · exact q2
  · rcases hx with ⟨q1, q2⟩ | ⟨-, q2⟩
    · omega
    · exact q2
  have hx : x = -2 ∧ S.1 = zfirst (fun k => zall (zform (mcup D) k) (mhl D lw) (wkm D) bits 4) (21 - k).toNat k := by
    rcases hx with q | q
    · exact q
    · omega
  obtain ⟨x2, hz⟩ := hx
  subst x2
  have hf : S.1 = if zall (zform (mcup D) k) (mhl D lw) (wkm D) bits 4 = true then k else zfirst (fun k => zall (zform (mcup D) k) (mhl D lw) (wkm D) bits 4) (21 - (k + 1)).toNat (k + 1) := by
    rw [hz, show (21 - k).toNat = (21 - (k + 1)).toNat + 1 by omega]
    rfl
  have e1 : m1 = (wr G 152 0 k, rho n1 V) := e1
  subst e1
  have fw : Fr (fun q j => q = 152 ∧ j = 0) G (wr G 152 0 k) := Fr.refl.wr ⟨rfl, rfl⟩
  have hG2 : MAc D W (wr G 152 0 k) V (zform (mcup D) k) := by
    refine mac hG fw (fun q j z => Or.inl z) ?_
    have g := hG.2.2.2.1
    unfold mcup zform at g
    simp only [Prod.mk.injEq] at g
    unfold mcup zform
    rw [wr_at, fw 152 1 (by omega), fw 152 2 (by omega), fw.obj (o := 153) (fun j => by omega), fw.obj (o := 154) (fun j => by omega), g.2.1, g.2.2.1, g.2.2.2.1, g.2.2.2.2]
  have hck := COK_form (k := k) hm.2.1 k0 (by omega)
  have l6 : lw (cSet (zform (mcup D) k) 6) = mhl D lw := rfl
  have s128 : ∀ (fl i : Int) (G2 : DD) (V2 : Nat → Nat), MAc D W G2 V2 (zform (mcup D) k) → (∀ j, 0 ≤ j → j < 20 → G2 185 j = cHole (mcup D) j) → (fl = 0 ∨ fl = 1) → (fl = 0 ↔ zall (zform (mcup D) k) (mhl D lw) (wkm D) bits 4 = false) → Wp (d + 131) 0 0 mX10_form 128 [some (vr 152), some (vi bits), some (vi (cLast (mcup D) + 1)), some (vi (-2)), some (vi k), some (vi fl), some (vi i)] [] (G2, rho n1 V2) (KI (Was n1 D W S)) := by
    intro fl i G2 V2 hA2 hP2 hfl hiff
    refine sg_X10_form_128 ⟨fun c v ev => ?_, fun c v ev => ?_⟩
    · rw [w32_id (by omega) (by omega)] at ev
      subst ev
      rw [hiff.mp c, if_neg (by decide)] at hf
      exact ih (-2, k + 1) _ ⟨G2, V2, k, rfl, hA2, hP2, by dsimp only; omega, by dsimp only; omega, Or.inl ⟨rfl, hf⟩⟩ (by dsimp only; omega)
    · rw [w32_id (by omega) (by omega)] at ev
      subst ev
      have ht : zall (zform (mcup D) k) (mhl D lw) (wkm D) bits 4 = true := by
        cases e : zall (zform (mcup D) k) (mhl D lw) (wkm D) bits 4 with
        | true => rfl
        | false => exact absurd (hiff.mpr e) c
      rw [if_pos ht] at hf
      exact ih (k, k + 1) _ ⟨G2, V2, k, rfl, hA2, hP2, by dsimp only; omega, by dsimp only; omega, Or.inr ⟨by dsimp only; omega, hf.symm⟩⟩ (by dsimp only; omega)
  refine Wp.loop (σ := Int × Int) (fun σ => [some (vr 152), some (vi bits), some (vi (cLast (mcup D) + 1)), some (vi (-2)), some (vi k), some (vi σ.1), some (vi σ.2)])
    (fun σ μ => ∃ (G : DD) (V : Nat → Nat), μ = (G, rho n1 V) ∧ MAc D W G V (zform (mcup D) k) ∧ (∀ j, 0 ≤ j → j < 20 → G 185 j = cHole (mcup D) j) ∧ 0 ≤ σ.2 ∧ σ.2 ≤ 4 ∧ (σ.1 = 1 ∧ zall (zform (mcup D) k) (mhl D lw) (wkm D) bits σ.2.toNat = true ∨ σ.1 = 0 ∧ zall (zform (mcup D) k) (mhl D lw) (wkm D) bits 4 = false))
    (fun σ => (4 - σ.2).toNat) ?_ (1, 0) _ ⟨_, V, rfl, hG2, fun j a b => by rw [wr_o (by decide)]; exact hP j a b, by decide, by decide, Or.inl ⟨rfl, rfl⟩⟩
  clear hG hG2 hP fw
  rintro ⟨fl, i⟩ μ ⟨G, V, rfl, hG, hP, i0, i1, hfl⟩ ih2
  dsimp only at i0 i1 hfl ih2 ⊢
  refine sg_X10_form_85 ⟨fun c3 => s128 fl i G V hG hP (by omega) ?_, fun c3 => ⟨fun c4 => s128 fl i G V hG hP (by omega) ?_, fun c4 => ⟨fun c5 v ev => ?_, fun c5 => ⟨rfl, m_whole ⟨i0, by omega⟩ hm hG hck fun F U2 h2 ht h41 fF => ?_⟩⟩⟩⟩
  · rcases hfl with ⟨q1, q2⟩ | ⟨q1, q2⟩
    · rw [show i.toNat = 4 by omega] at q2
      rw [q2]
      exact ⟨fun z => by omega, fun z => Bool.noConfusion z⟩
    · exact ⟨fun _ => q2, fun _ => q1⟩
  · rcases hfl with ⟨q1, q2⟩ | ⟨q1, q2⟩
    · omega
    · exact ⟨fun _ => q2, fun _ => q1⟩
  · have q2 : zall (zform (mcup D) k) (mhl D lw) (wkm D) bits i.toNat = true := by
      rcases hfl with ⟨-, q2⟩ | ⟨q1, -⟩
      · exact q2
      · omega
    rw [w32_id (by omega) (by omega)] at ev
    subst ev
    refine ih2 (1, i + 1) _ ⟨G, V, rfl, hG, hP, by dsimp only; omega, by dsimp only; omega, Or.inl ⟨rfl, ?_⟩⟩ (by dsimp only; omega)
    dsimp only
    rw [zall_s i0, q2, decide_eq_true c5]
    rfl
  · have q2 : zall (zform (mcup D) k) (mhl D lw) (wkm D) bits i.toNat = true := by
      rcases hfl with ⟨-, q2⟩ | ⟨q1, -⟩
      · exact q2
      · omega
    have hP2 : ∀ j, 0 ≤ j → j < 20 → F 185 j = cHole (mcup D) j := fun j a b => by
      rw [fF 185 j (by unfold mrF mgF; omega)]
      exact hP j a b
    rw [l6]
    refine ⟨fun c6 v ev => ?_, fun c6 v ev => ?_⟩
    · rw [w32_id (by omega) (by omega)] at ev
      subst ev
      refine ih2 (0, i + 1) _ ⟨F, U2, rfl, h2, hP2, by dsimp only; omega, by dsimp only; omega, Or.inr ⟨rfl, ?_⟩⟩ (by dsimp only; omega)
      have hz4 := zall_le (c := zform (mcup D) k) (L := mhl D lw) (ws := wkm D) (bits := bits) (n := (i + 1).toNat) (by
        rw [zall_s i0, q2, decide_eq_false c5, decide_eq_false c6]
        rfl) (4 - (i + 1).toNat)
      rw [show (i + 1).toNat + (4 - (i + 1).toNat) = 4 by omega] at hz4
      exact hz4
    · rw [w32_id (by omega) (by omega)] at ev
      subst ev
      refine ih2 (1, i + 1) _ ⟨F, U2, rfl, h2, hP2, by dsimp only; omega, by dsimp only; omega, Or.inl ⟨rfl, ?_⟩⟩ (by dsimp only; omega)
      dsimp only
      rw [zall_s i0, q2, decide_eq_true c6, Bool.or_true]
      rfl
end MA5
