/-! ===== the model's spots, metres, films; fits, reads ===== -/
def mfilms (D : DD) : List Fm := (List.range (D 152 59).toNat).map (fun k : Nat => (D 187 (k : Int), D 188 (k : Int), D 189 (k : Int), D 190 (k : Int)))
/-- what was given on films lies within its bounds -/
def GIn (l : List Fm) : Prop := ∀ f ∈ l, -500 ≤ f.2.2.2 ∧ f.2.2.2 ≤ 500
theorem zlaw_rng {cd : List Int} {p s t f h : Int} : -500 ≤ zlaw cd p s t f h ∧ zlaw cd p s t f h ≤ 500 := by
  unfold zlaw
  generalize cd.foldl (fun st x => zev p s t f h x st) [] = l
  cases l with
  | nil => exact ⟨by show (-500 : Int) ≤ 0; decide, by show (0 : Int) ≤ 500; decide⟩
  | cons a r => exact btw_rng (by decide)
theorem zabs_rng {x y : Int} (hx : -500 ≤ x ∧ x ≤ 500) (hy : -500 ≤ y ∧ y ≤ 500) : 0 ≤ zabs (w32 (x - y)) ∧ zabs (w32 (x - y)) ≤ 1000 := by
  rw [w32_id (by omega) (by omega)]
  unfold zabs
  split
  · rw [w32_id (by omega) (by omega)]
    omega
  · omega
theorem zoff_rng {c : Cv} {cd : List Int} {f : Fm} (h : -500 ≤ f.2.2.2 ∧ f.2.2.2 ≤ 500) : 0 ≤ zoff c cd f ∧ zoff c cd f ≤ 1000 := zabs_rng zlaw_rng h
theorem ztenth_rng {a b : Int} {f : Fm} (h : -500 ≤ f.2.2.2 ∧ f.2.2.2 ≤ 500) : 0 ≤ ztenth a b f ∧ ztenth a b f ≤ 1000 := zabs_rng (btw_rng (by decide)) h
theorem ztens_rng {a b : Int} {fs : Nat → Fm} : ∀ {n : Nat}, n ≤ 20 → (∀ k, k < n → -500 ≤ (fs k).2.2.2 ∧ (fs k).2.2.2 ≤ 500) → 0 ≤ ztens a b fs n ∧ ztens a b fs n ≤ 1000 * n
  | 0, _, _ => ⟨Int.le_refl 0, by show (0 : Int) ≤ 1000 * ((0 : Nat) : Int); omega⟩
  | n + 1, hn, h => by
    obtain ⟨i0, i1⟩ := ztens_rng (a := a) (b := b) (n := n) (by omega) (fun k hk => h k (by omega))
    obtain ⟨j0, j1⟩ := ztenth_rng (a := a) (b := b) (h n (by omega))
    show 0 ≤ w32 (ztens a b fs n + ztenth a b (fs n)) ∧ w32 (ztens a b fs n + ztenth a b (fs n)) ≤ _
    rw [w32_id (by omega) (by omega)]
    omega
def ZF (s : Int × Int × Int × Int) (a3 a4 a5 a6 : Int) : Prop := s.1 = a3 ∧ s.2.1 = a4 ∧ ((a5 = -1 ∧ s.2.2 = (-1, -1)) ∨ (0 ≤ a5 ∧ s.2.2 = (a5, a6)))
def ZR (s : Int × Int × Int) (a1 a2 a3 : Int) : Prop := (a1 = -1 ∧ s = (2147483647, -1, -1)) ∨ (0 ≤ a1 ∧ s = (a3, a1, a2))
section MFI
variable {d n1 : Nat} {W V : Nat → Nat} {D E : DD} {lw : Int → Option (List Int)} {c : Cv}
theorem mfilms_len : (mfilms D).length = (D 152 59).toNat := by unfold mfilms; rw [List.length_map, List.length_range]
theorem mfilms_at {k : Nat} (h : (k : Int) < D 152 59) : fmAt (mfilms D) k = (D 187 k, D 188 k, D 189 k, D 190 k) := by
  unfold fmAt mfilms
  rw [List.getD_eq_getElem?_getD, List.getElem?_map, List.getElem?_range (by omega)]
  rfl
theorem GIn.at {k : Nat} (hg : GIn (mfilms D)) (h : (k : Int) < D 152 59) : -500 ≤ (fmAt (mfilms D) k).2.2.2 ∧ (fmAt (mfilms D) k).2.2.2 ≤ 500 := by
  rw [mfilms_at h]
  refine hg (D 187 k, D 188 k, D 189 k, D 190 k) ?_
  unfold mfilms
  exact List.mem_map.mpr ⟨k, List.mem_range.mpr (by omega), rfl⟩
theorem MAc.by {E' : DD} {U : Nat → Nat} (h : MAc D W E V c) (hU : V12 V U) (f : Fr byF E E') : MAc D W E' U c := by
  obtain ⟨h1, h2, h3, h4, h5, h6⟩ := h
  refine ⟨h1.trans hU, h2.trans (f.mono (fun q j z => by unfold byF at z; unfold maF; omega)), (mst_fr f (by unfold byF; omega) (by unfold byF; omega) (fun q j x y => by unfold byF; omega)).trans h3, (mcup_fr f (fun j x y => by unfold byF; omega) (fun q j x y => by unfold byF; omega)).trans h4, by rw [f 152 15 (by unfold byF; omega)]; exact h5, ?_⟩
  rw [← h6]
  unfold MTV mtoldv
  rw [f 152 14 (by unfold byF; omega), f.obj (o := 160) (fun j => by unfold byF; omega)]
theorem C_mfits {l within : Int} (hm : MRun D lw) (f0 : 0 ≤ D 152 59) (f1 : D 152 59 ≤ 20) (hg : GIn (mfilms D)) : Cl (d + 128) 0 0 mX10_fits [vr 152, vi l, vi within] (D, rho n1 W) (KI (Was n1 D W (S_fits (mcup D) lw (mfilms D) l within))) := by
  refine Cl_of mb_X10_fits (Nat.le_of_ble_eq_true rfl) (sg_X10_fits_0 ⟨rfl, fun m1 e1 => ?_⟩)
  obtain ⟨E, hE⟩ : ∃ E, E = wr D 152 15 0 := ⟨_, rfl⟩
  have e1 : m1 = (E, rho n1 W) := by rw [hE]; exact e1
  subst e1
  have h0 : MAc D W E W (mcup D) := MAc.beg hE
  have hLE := (h0.mr hm hm.2.1).2.2.2.1
  have hLD := hm.2.2.2.1
  have e172 : E 175 l = D 175 l := h0.2.1 175 l (by unfold maF; omega)
  refine cB (C_misLaw (D := E)) (fun hl => yE (cB C_in (fun hx => yN ?_) (fun hx => nN ⟨_, rfl, ?_⟩))) (fun hl => nE ⟨_, rfl, ?_⟩)
  rotate_left
  · have hl' : (0 ≤ l ∧ l ≤ 2) ∧ 1 ≤ D 175 l := by rw [← e172]; exact hl
    have hs : S_fits (mcup D) lw (mfilms D) l within = (-1, none) := by
      unfold S_fits
      rw [(hLD.some hl').2.2]
      exact if_neg hx
    exact Was_no h0 (by rw [hs]) (by rw [hs])
  · have hs : S_fits (mcup D) lw (mfilms D) l within = (-1, none) := by
      unfold S_fits
      rw [hLE.none hl]
    exact Was_no h0 (by rw [hs]) (by rw [hs])
  have hl' : (0 ≤ l ∧ l ≤ 2) ∧ 1 ≤ D 175 l := by rw [← e172]; exact hl
  obtain ⟨s40, sz, sl⟩ := hLD.some hl'
  obtain ⟨cd, hcd⟩ : ∃ cd, cd = (zlawr (D (172 + l.toNat)) (D 175 l)).2 := ⟨_, rfl⟩
  rw [← hcd] at sl
  obtain ⟨N, hN⟩ : ∃ N, N = D 152 59 := ⟨_, rfl⟩
  rw [← hN] at f0 f1
  have hS : S_fits (mcup D) lw (mfilms D) l within = ((zfits (mcup D) cd within (fmAt (mfilms D)) N.toNat).1, some [(zfits (mcup D) cd within (fmAt (mfilms D)) N.toNat).2.1, (zfits (mcup D) cd within (fmAt (mfilms D)) N.toNat).2.2.1]) := by
    unfold S_fits
    rw [sl]
    dsimp only
    rw [if_pos hx, mfilms_len, ← hN]
  generalize S_fits (mcup D) lw (mfilms D) l within = S at hS ⊢
  refine Wp.loop (σ := (Int × Int × Int × Int) × Int) (fun σ => [some (vr 152), some (vi l), some (vi within), some (vi σ.1.1), some (vi σ.1.2.1), some (vi σ.1.2.2.1), some (vi σ.1.2.2.2), some (vi σ.2), none])
    (fun σ μ => ∃ (E : DD) (V : Nat → Nat), μ = (E, rho n1 V) ∧ MAc D W E V (mcup D) ∧ 0 ≤ σ.2 ∧ σ.2 ≤ N ∧ ZF (zfits (mcup D) cd within (fmAt (mfilms D)) σ.2.toNat) σ.1.1 σ.1.2.1 σ.1.2.2.1 σ.1.2.2.2)
    (fun σ => (N - σ.2).toNat) ?_ ((0, 0, -1, 0), 0) _ ⟨E, W, rfl, h0, Int.le_refl _, f0, rfl, rfl, Or.inl ⟨rfl, rfl⟩⟩
  clear hl hLE e172 h0 hE
  rintro ⟨⟨a3, a4, a5, a6⟩, k⟩ μ ⟨E, V, rfl, h, k0, k1, hz⟩ ih
  dsimp only at k0 k1 hz ih ⊢
  refine Wp.rng fun hrg => ?_
  have rD : ∀ o j, KT o ≠ 21 → w32 (E o j) = E o j := fun o j z => r32_w ((hrg o j).2 z)
  have r184 := rD 187 k (by decide)
  have r185 := rD 188 k (by decide)
  have r186 := rD 189 k (by decide)
  have r149 := rD 152 2 (by decide)
  have r150 := rD 153 2 (by decide)
  clear hrg rD
  have e59 : mD (E, rho n1 V) 152 59 = N := (h.2.1 152 59 (by unfold maF; omega)).trans hN.symm
  refine sg_X10_fits_39 ⟨rfl, ?_⟩
  rw [e59]
  refine ⟨fun c2 m1 e1 => ?_, fun c2 => ?_⟩
  · have e1 : m1 = (wr E 152 14 0, rho n1 V) := e1
    subst e1
    rw [show k = N by omega] at hz
    obtain ⟨q1, q2, q3⟩ := hz
    have q4 : (zfits (mcup D) cd within (fmAt (mfilms D)) N.toNat).2.2.1 = a5 := by
      rcases q3 with ⟨r1, r2⟩ | ⟨r1, r2⟩
      · rw [r2, r1]
      · rw [r2]
    refine cV (C_mtl (MTl.beg (E := E)) (by decide)) ?_
    rintro m ⟨G1, rfl, g1⟩
    refine ⟨rfl, cV (C_mtl g1 (by simp)) ?_⟩
    rintro m ⟨G2, rfl, g2⟩
    exact ⟨_, rfl, Was_tell h g2 (by rw [hS, q1]) (by rw [hS, q2, q4]; rfl)⟩
  have film : ∀ q, 187 ≤ q → q ≤ 190 → E q = D q := fun q a b => h.2.1.obj (fun j => by unfold maF; omega)
  have e2' : E 152 2 = cFill (mcup D) := congrArg (fun q : Cv => q.2.2.1) h.2.2.2.1
  have e150 : E 153 2 = cSet (mcup D) 2 := by
    rw [← h.2.2.2.1]
    exact (cut_in (n := 7) (f := E 153) (k := 2) (by decide) (by decide)).symm
  have e172 : E 175 l = D 175 l := h.2.1 175 l (by unfold maF; omega)
  have e169 : E (172 + l.toNat) = D (172 + l.toNat) := h.2.1.obj (fun j => by unfold maF; omega)
  refine ⟨Or.inl rfl, bnd (N := 20) rfl k0 (by omega), Or.inl rfl, bnd (N := 20) rfl k0 (by omega), Or.inl rfl, bnd (N := 20) rfl k0 (by omega), cI (C_mbyLaw (D := E) (i := l) (t := D (172 + l.toNat)) (P := E 187 k) (S := E 188 k) (T := E 189 k) (H := E 152 2) hl'.1 (by rw [e172]; exact hl'.2) (by rw [e172]; exact s40) (fun j _ _ => by rw [e169]) (by rw [e172]; exact sz) ⟨r184, r185, r186, r150, r149⟩) ?_⟩
  rintro x m ⟨hx1, G, rfl, fG⟩
  have hG := h.by (V12.u (b := 172 + l.toNat)) fG
  have g187 : G 190 = E 190 := fG.obj (fun j => by unfold byF; omega)
  refine ⟨rfl, Or.inl rfl, bnd (N := 20) rfl k0 (by omega), cP C_absz ?_⟩
  have hkN : ((k.toNat : Nat) : Int) < D 152 59 := by omega
  have ekk : ((k.toNat : Nat) : Int) = k := by omega
  obtain ⟨of, hof⟩ : ∃ of, of = zoff (mcup D) cd (fmAt (mfilms D) k.toNat) := ⟨_, rfl⟩
  have eof : zabs (w32 (x - mD (G, rho n1 (uW V 12 (172 + l.toNat))) (mR (G, rho n1 (uW V 12 (172 + l.toNat))) 152 63) k)) = of := by
    rw [hof, hx1, e172, ← hcd, e150, e2', mfilms_at hkN, ekk]
    show zabs (w32 (zlaw cd (E 187 k) (E 188 k) (E 189 k) (cSet (mcup D) 2) (cFill (mcup D)) - G 190 k)) = zabs (w32 (zlaw cd (D 187 k) (D 188 k) (D 189 k) (cSet (mcup D) 2) (cFill (mcup D)) - D 190 k))
    rw [g187, film 187 (by decide) (by decide), film 188 (by decide) (by decide), film 189 (by decide) (by decide), film 190 (by decide) (by decide)]
  rw [eof]
  have orng := zoff_rng (c := mcup D) (cd := cd) (hg.at hkN)
  rw [← hof] at orng
  have stz : zfits (mcup D) cd within (fmAt (mfilms D)) (k + 1).toNat = (w32 ((zfits (mcup D) cd within (fmAt (mfilms D)) k.toNat).1 + (if of ≤ within then 1 else 0)), w32 ((zfits (mcup D) cd within (fmAt (mfilms D)) k.toNat).2.1 + of), if (zfits (mcup D) cd within (fmAt (mfilms D)) k.toNat).2.2.2 < of then (k, of) else (zfits (mcup D) cd within (fmAt (mfilms D)) k.toNat).2.2) := by
    rw [show (k + 1).toNat = k.toNat + 1 by omega]
    show zfit1 _ _ _ ((k.toNat : Nat) : Int) (fmAt (mfilms D) k.toNat) _ = _
    unfold zfit1
    rw [← hof, ekk]
  obtain ⟨q1, q2, q3⟩ := hz
  rw [q1, q2] at stz
  have wk : w32 (k + 1) = k + 1 := w32_id (by omega) (by omega)
  have next : ∀ b3 b4 b5 b6, ZF (zfits (mcup D) cd within (fmAt (mfilms D)) (k + 1).toNat) b3 b4 b5 b6 → ∀ v, v = w32 (k + 1) → Wp (d + 128) 0 0 mX10_fits 39 [some (vr 152), some (vi l), some (vi within), some (vi b3), some (vi b4), some (vi b5), some (vi b6), some (vi v), none] [] (G, rho n1 (uW V 12 (172 + l.toNat))) (KI (Was n1 D W S)) := by
    intro b3 b4 b5 b6 hzf v ev
    rw [wk] at ev
    subst ev
    exact ih ((b3, b4, b5, b6), k + 1) _ ⟨G, _, rfl, hG, by dsimp only; omega, by dsimp only; omega, hzf⟩ (by dsimp only; omega)
  have tA : ∀ b3 b4, b3 = w32 (a3 + (if of ≤ within then 1 else 0)) → b4 = w32 (a4 + of) → (a5 = -1 ∨ a6 < of) → ZF (zfits (mcup D) cd within (fmAt (mfilms D)) (k + 1).toNat) b3 b4 k of := fun b3 b4 h3 h4 h5 => by
    rw [stz, h3, h4]
    refine ⟨rfl, rfl, Or.inr ⟨k0, ?_⟩⟩
    rcases q3 with ⟨r1, r2⟩ | ⟨r1, r2⟩
    · rw [r2]
      exact if_pos (show (-1 : Int) < of by omega)
    · rw [r2]
      exact if_pos (show a6 < of by omega)
  have tB : ∀ b3 b4, b3 = w32 (a3 + (if of ≤ within then 1 else 0)) → b4 = w32 (a4 + of) → ¬ a5 = -1 → ¬ a6 < of → ZF (zfits (mcup D) cd within (fmAt (mfilms D)) (k + 1).toNat) b3 b4 a5 a6 := fun b3 b4 h3 h4 h5 h6 => by
    rw [stz, h3, h4]
    refine ⟨rfl, rfl, Or.inr ?_⟩
    rcases q3 with ⟨r1, r2⟩ | ⟨r1, r2⟩
    · exact absurd r1 h5
    · refine ⟨r1, ?_⟩
      rw [r2]
      exact if_neg (show ¬ a6 < of from h6)
  refine ⟨fun c3 v1 e1 v2 e2 => ?_, fun c3 v1 e1 v2 e2 => ?_⟩
  · have e1 : v1 = w32 (a3 + (if of ≤ within then 1 else 0)) := by rw [if_neg (by omega)]; exact e1
    exact ⟨fun c4 => next _ _ _ _ (tA _ _ e1 e2 (Or.inl c4)), fun c4 => ⟨fun c5 => next _ _ _ _ (tA _ _ e1 e2 (Or.inr c5)), fun c5 => next _ _ _ _ (tB _ _ e1 e2 c4 c5)⟩⟩
  · have e1 : v1 = w32 (a3 + (if of ≤ within then 1 else 0)) := by rw [if_pos (by omega)]; exact e1
    exact ⟨fun c4 => next _ _ _ _ (tA _ _ e1 e2 (Or.inl c4)), fun c4 => ⟨fun c5 => next _ _ _ _ (tA _ _ e1 e2 (Or.inr c5)), fun c5 => next _ _ _ _ (tB _ _ e1 e2 c4 c5)⟩⟩
theorem C_mreads (f0 : 0 ≤ D 152 59) (f1 : D 152 59 ≤ 20) (hg : GIn (mfilms D)) : Cl (d + 3) 0 0 mX10_reads [vr 152] (D, rho n1 W) (KI (Was n1 D W (S_reads (mfilms D)))) := by
  refine Cl_of mb_X10_reads (Nat.le_of_ble_eq_true rfl) (sg_X10_reads_0 ⟨rfl, fun m1 e1 => ?_⟩)
  obtain ⟨E, hE⟩ : ∃ E, E = wr D 152 15 0 := ⟨_, rfl⟩
  have e1 : m1 = (E, rho n1 W) := by rw [hE]; exact e1
  subst e1
  have h0 : MAc D W E W (mcup D) := MAc.beg hE
  obtain ⟨N, hN⟩ : ∃ N, N = D 152 59 := ⟨_, rfl⟩
  have e59 : mD (E, rho n1 W) 152 59 = N := (h0.2.1 152 59 (by unfold maF; omega)).trans hN.symm
  rw [e59]
  rw [← hN] at f0 f1
  have hlen : (mfilms D).length = N.toNat := by rw [mfilms_len, hN]
  have film : ∀ q, 187 ≤ q → q ≤ 190 → E q = D q := fun q a b => h0.2.1.obj (fun j => by unfold maF; omega)
  obtain ⟨f, hf⟩ : ∃ f : Int → Int → Int, f = fun a b => ztens a b (fmAt (mfilms D)) (mfilms D).length := ⟨_, rfl⟩
  refine ⟨fun c => ?_, fun c => ⟨_, rfl, ?_⟩⟩
  rotate_left
  · have hs : S_reads (mfilms D) = (-1, none) := if_pos (by omega)
    exact Was_no h0 (by rw [hs]) (by rw [hs])
  have hS : S_reads (mfilms D) = (0, some [(zread f 441).2.1, (zread f 441).2.2, (zread f 441).1]) := by
    rw [hf]
    exact if_neg (by omega)
  generalize S_reads (mfilms D) = S at hS ⊢
  refine Wp.loop (σ := (Int × Int × Int) × Int) (fun σ => [some (vr 152), some (vi σ.1.1), some (vi σ.1.2.1), some (vi σ.1.2.2), some (vi σ.2), none, none, none])
    (fun σ μ => μ = (E, rho n1 W) ∧ 0 ≤ σ.2 ∧ σ.2 ≤ 21 ∧ ZR (zread f (21 * σ.2).toNat) σ.1.1 σ.1.2.1 σ.1.2.2)
    (fun σ => (21 - σ.2).toNat) ?_ ((-1, 0, 0), 0) _ ⟨rfl, by decide, by decide, Or.inl ⟨rfl, rfl⟩⟩
  rintro ⟨⟨a1, a2, a3⟩, a⟩ μ ⟨rfl, b0, b1, hz⟩ ih
  dsimp only at b0 b1 hz ih ⊢
  refine sg_X10_reads_23 ⟨fun c2 => ⟨rfl, fun m1 e1 => ?_⟩, fun c2 => ?_⟩
  · have e1 : m1 = (wr E 152 14 0, rho n1 W) := e1
    subst e1
    have hfn : ∀ k, k < N.toNat → -500 ≤ (fmAt (mfilms D) k).2.2.2 ∧ (fmAt (mfilms D) k).2.2.2 ≤ 500 := fun k hk => hg.at (by omega)
    rw [show (21 * a).toNat = 441 by omega] at hz
    have q : (zread f 441).2.1 = a1 ∧ (zread f 441).2.2 = a2 ∧ (zread f 441).1 = a3 := by
      rcases hz with ⟨r1, r2⟩ | ⟨r1, r2⟩
      · -- some value was below the first one
        have hsub : ∀ n : Nat, 1 ≤ n → (zread f n).1 < 2147483647 := by
          intro n hn
          induction n with
          | zero => omega
          | succ n ih2 =>
            have hfb : f (n / 21 : Nat) (n % 21 : Nat) < 2147483647 := by
              rw [hf]
              have := (ztens_rng (a := ((n / 21 : Nat) : Int)) (b := ((n % 21 : Nat) : Int)) (fs := fmAt (mfilms D)) (n := (mfilms D).length) (by omega) (fun k hk => hfn k (by omega))).2
              show ztens _ _ _ _ < _
              omega
            show (if f (n / 21 : Nat) (n % 21 : Nat) < (zread f n).1 then (f (n / 21 : Nat) (n % 21 : Nat), ((n / 21 : Nat) : Int), ((n % 21 : Nat) : Int)) else zread f n).1 < _
            split
            · exact hfb
            · by_cases z : n = 0
              · subst z
                rename_i hlt
                exact absurd hfb hlt
              · exact ih2 (by omega)
        have := hsub 441 (by decide)
        rw [r2] at this
        exact absurd this (by decide)
      · rw [r2]
        exact ⟨rfl, rfl, rfl⟩
    refine cV (C_mtl (MTl.beg (E := E)) (by decide)) ?_
    rintro m ⟨G1, rfl, g1⟩
    refine ⟨rfl, cV (C_mtl g1 (by simp)) ?_⟩
    rintro m ⟨G2, rfl, g2⟩
    refine ⟨rfl, cV (C_mtl g2 (by simp)) ?_⟩
    rintro m ⟨G3, rfl, g3⟩
    refine ⟨_, rfl, Was_tell h0 g3 (by rw [hS]) ?_⟩
    rw [hS, q.1, q.2.1, q.2.2]
    rfl
  refine Wp.loop (σ := (Int × Int × Int) × Int) (fun σ => [some (vr 152), some (vi σ.1.1), some (vi σ.1.2.1), some (vi σ.1.2.2), some (vi a), some (vi σ.2), none, none])
    (fun σ μ => μ = (E, rho n1 W) ∧ 0 ≤ σ.2 ∧ σ.2 ≤ 21 ∧ ZR (zread f (21 * a + σ.2).toNat) σ.1.1 σ.1.2.1 σ.1.2.2)
    (fun σ => (21 - σ.2).toNat) ?_ ((a1, a2, a3), 0) _ ⟨rfl, by dsimp only; decide, by dsimp only; decide, by dsimp only; rw [Int.add_zero]; exact hz⟩
  clear hz
  rintro ⟨⟨a1, a2, a3⟩, b⟩ μ ⟨rfl, c0, c1, hz⟩ ih2
  dsimp only at c0 c1 hz ih2 ⊢
  refine sg_X10_reads_33 ⟨fun c3 v ev => ?_, fun c3 => ?_⟩
  · rw [w32_id (by omega) (by omega)] at ev
    subst ev
    refine ih ((a1, a2, a3), a + 1) _ ⟨rfl, by dsimp only; omega, by dsimp only; omega, ?_⟩ (by dsimp only; omega)
    dsimp only
    rw [show 21 * (a + 1) = 21 * a + b by omega]
    exact hz
  have stz : zread f (21 * a + (b + 1)).toNat = if f a b < (zread f (21 * a + b).toNat).1 then (f a b, a, b) else zread f (21 * a + b).toNat := by
    rw [show (21 * a + (b + 1)).toNat = (21 * a + b).toNat + 1 by omega]
    show zread1 f (((21 * a + b).toNat / 21 : Nat)) (((21 * a + b).toNat % 21 : Nat)) _ = _
    rw [show (((21 * a + b).toNat / 21 : Nat) : Int) = a by omega, show (((21 * a + b).toNat % 21 : Nat) : Int) = b by omega]
    rfl
  generalize zread f (21 * a + b).toNat = Z at hz stz
  have wb : w32 (b + 1) = b + 1 := w32_id (by omega) (by omega)
  refine Wp.loop (σ := Int × Int) (fun σ => [some (vr 152), some (vi a1), some (vi a2), some (vi a3), some (vi a), some (vi b), some (vi σ.1), some (vi σ.2)])
    (fun σ μ => μ = (E, rho n1 W) ∧ 0 ≤ σ.2 ∧ σ.2 ≤ N ∧ σ.1 = ztens a b (fmAt (mfilms D)) σ.2.toNat)
    (fun σ => (N - σ.2).toNat) ?_ (0, 0) _ ⟨rfl, Int.le_refl _, f0, rfl⟩
  rintro ⟨s, k⟩ μ ⟨rfl, k0, k1, hs⟩ ih3
  dsimp only at k0 k1 hs ih3 ⊢
  refine sg_X10_reads_46 ⟨rfl, ?_⟩
  rw [e59]
  refine ⟨fun c4 => ?_, fun c4 => ⟨Or.inl rfl, bnd (N := 20) rfl k0 (by omega), Or.inl rfl, bnd (N := 20) rfl k0 (by omega), cP C_mbounded ⟨rfl, Or.inl rfl, bnd (N := 20) rfl k0 (by omega), cP C_absz fun v4 e4 v5 e5 => ?_⟩⟩⟩
  · have hsf : s = f a b := by
      rw [hs, hf, hlen, show k = N by omega]
    have hsr : s < 2147483647 := by
      have := (ztens_rng (a := a) (b := b) (fs := fmAt (mfilms D)) (n := k.toNat) (by omega) (fun j hj => hg.at (by omega))).2
      omega
    rw [← hsf] at stz
    have next : ∀ x1 x2 x3, ZR (zread f (21 * a + (b + 1)).toNat) x1 x2 x3 → ∀ v, v = w32 (b + 1) → Wp (d + 3) 0 0 mX10_reads 33 [some (vr 152), some (vi x1), some (vi x2), some (vi x3), some (vi a), some (vi v), none, none] [] (E, rho n1 W) (KI (Was n1 D W S)) := by
      intro x1 x2 x3 hzr v ev
      rw [wb] at ev
      subst ev
      exact ih2 ((x1, x2, x3), b + 1) _ ⟨rfl, by dsimp only; omega, by dsimp only; omega, hzr⟩ (by dsimp only; omega)
    have take : s < Z.1 → ZR (zread f (21 * a + (b + 1)).toNat) a b s := fun q => by
      rw [stz, if_pos q]
      exact Or.inr ⟨b0, rfl⟩
    refine ⟨fun c5 => next _ _ _ (take ?_), fun c5 => ⟨fun c6 => next _ _ _ (take ?_), fun c6 => next _ _ _ ?_⟩⟩
    · rcases hz with ⟨-, r2⟩ | ⟨r1, r2⟩
      · rw [r2]
        exact hsr
      · omega
    · rcases hz with ⟨r1, -⟩ | ⟨r1, r2⟩
      · exact absurd r1 c5
      · rw [r2]
        exact c6
    · rcases hz with ⟨r1, -⟩ | ⟨r1, r2⟩
      · exact absurd r1 c5
      · rw [stz, r2, if_neg (show ¬ s < a3 from c6)]
        exact Or.inr ⟨r1, rfl⟩
  · rw [w32_id (by omega) (by omega)] at e5
    subst e5
    refine ih3 (v4, k + 1) _ ⟨rfl, by dsimp only; omega, by dsimp only; omega, ?_⟩ (by dsimp only; omega)
    dsimp only
    have ekk : ((k.toNat : Nat) : Int) = k := by omega
    rw [show (k + 1).toNat = k.toNat + 1 by omega, e4, hs]
    show _ = w32 (ztens a b (fmAt (mfilms D)) k.toNat + ztenth a b (fmAt (mfilms D) k.toNat))
    rw [mfilms_at (by omega), ekk]
    show w32 (_ + zabs (w32 (btw (w32 (w32 ((w32 (E 187 k * a)).tdiv 10) - w32 ((w32 (E 188 k * b)).tdiv 10))) (-500) 500 - E 190 k))) = _
    rw [film 187 (by decide) (by decide), film 188 (by decide) (by decide), film 190 (by decide) (by decide)]
    rfl
theorem C_mspot {t : Int} (h0 : 0 ≤ D 152 57) (h1 : D 152 57 ≤ 12) : Cl (d + 1) 0 0 mX10_spot [vr 152, vi t] (D, rho n1 W) (KI (fun r m => ∃ D', m = (D', rho n1 W) ∧ Fr (fun q j => q = 186 ∨ (q = 152 ∧ (j = 57 ∨ j = 15))) D D' ∧ D' 152 15 = 0 ∧ (((0 ≤ t ∧ t ≤ 1000) ∧ D 152 57 < 12) ∧ r = D 152 57 + 1 ∧ mspots D' = mspots D ++ [t] ∧ D' 152 57 = D 152 57 + 1 ∨ ¬ ((0 ≤ t ∧ t ≤ 1000) ∧ D 152 57 < 12) ∧ r = -1 ∧ mspots D' = mspots D ∧ D' 152 57 = D 152 57))) := by
  refine Cl_of mb_X10_spot (Nat.le_of_ble_eq_true rfl) (sg_X10_spot_0 ⟨rfl, fun m1 e1 => ?_⟩)
  obtain ⟨E, hE, fE, a15, cE, sE⟩ := m0 D
  have e1 : m1 = (E, rho n1 W) := by rw [hE]; exact e1
  subst e1
  have a57 : E 152 57 = D 152 57 := fE 152 57 (by omega)
  have eS : mspots E = mspots D := by
    unfold mspots
    rw [a57, fE.obj (o := 186) (fun j => by omega)]
  have bad : ¬ ((0 ≤ t ∧ t ≤ 1000) ∧ D 152 57 < 12) → KI (fun r m => ∃ D', m = (D', rho n1 W) ∧ Fr (fun q j => q = 186 ∨ (q = 152 ∧ (j = 57 ∨ j = 15))) D D' ∧ D' 152 15 = 0 ∧ (((0 ≤ t ∧ t ≤ 1000) ∧ D 152 57 < 12) ∧ r = D 152 57 + 1 ∧ mspots D' = mspots D ++ [t] ∧ D' 152 57 = D 152 57 + 1 ∨ ¬ ((0 ≤ t ∧ t ≤ 1000) ∧ D 152 57 < 12) ∧ r = -1 ∧ mspots D' = mspots D ∧ D' 152 57 = D 152 57)) (some (some (vi (-1)))) (E, rho n1 W) := fun hn => ⟨_, rfl, E, rfl, fE.mono (fun q j z => by omega), a15, Or.inr ⟨hn, rfl, eS, a57⟩⟩
  refine cB C_in (fun hx => yE ⟨rfl, ?_⟩) (fun hx => nE (bad (fun q => hx q.1)))
  rw [show mD (E, rho n1 W) 152 57 = D 152 57 from a57]
  refine ⟨fun c => ⟨rfl, bnd (N := 12) rfl h0 (by omega), fun m3 e3 m4 e4 => ?_⟩, fun c => bad (fun q => by omega)⟩
  have e3 : m3 = (wr E 186 (D 152 57) t, rho n1 W) := e3
  subst e3
  have w1 : w32 (D 152 57 + 1) = D 152 57 + 1 := w32_id (by omega) (by omega)
  have e4 : m4 = (wr (wr E 186 (D 152 57) t) 152 57 (D 152 57 + 1), rho n1 W) := by
    rw [e4]
    show (wr _ 152 57 (w32 (wr E 186 (D 152 57) t 152 57 + 1)), rho n1 W) = _
    rw [wr_o (by decide), a57, w1]
    rfl
  subst e4
  refine ⟨_, rfl, _, rfl, ((fE.mono (fun q j z => by omega)).wr (Or.inl rfl)).wr (Or.inr ⟨rfl, Or.inl rfl⟩), by rw [wr_j (by decide), wr_o (by decide), a15], Or.inl ⟨⟨hx, by omega⟩, ?_, ?_, wr_at⟩⟩
  · show wr (wr E 186 (D 152 57) t) 152 57 (D 152 57 + 1) 152 57 = _
    rw [wr_at]
  · unfold mspots
    rw [wr_at, wr_o (o := 186) (by decide), wr_A, lst_push h0, fE.obj (o := 186) (fun j => by omega)]
theorem C_mwipe : Cl d 0 0 mX10_wipe [vr 152] (D, rho n1 W) (KI (fun r m => ∃ D', m = (D', rho n1 W) ∧ Fr (fun q j => q = 152 ∧ (j = 57 ∨ j = 15)) D D' ∧ D' 152 15 = 0 ∧ r = D 152 57 ∧ mspots D' = [] ∧ D' 152 57 = 0)) := by
  refine Cl_of mb_X10_wipe (Nat.le_of_ble_eq_true rfl) (sg_X10_wipe_0 ⟨rfl, fun m1 e1 v1 ev m2 e2 => ?_⟩)
  have e1 : m1 = (wr D 152 15 0, rho n1 W) := e1
  subst e1
  have e2 : m2 = (wr (wr D 152 15 0) 152 57 0, rho n1 W) := e2
  subst e2
  refine ⟨_, rfl, _, rfl, (Fr.refl.wr (by omega)).wr (by omega), by rw [wr_j (by decide), wr_at], ?_, ?_, wr_at⟩
  · rw [ev]
    show wr D 152 15 0 152 57 = _
    rw [wr_j (by decide)]
  · unfold mspots
    rw [wr_at]
    exact lst_0 (Int.le_refl 0)
theorem C_mleads {a v : Int} : Cl (d + 2) 0 0 mX10_leads [vr 152, vi a, vi v] (D, rho n1 W) (KI (fun r m => ∃ D', m = (D', rho n1 W) ∧ Fr (fun q j => q = 180 ∨ (q = 152 ∧ j = 15)) D D' ∧ D' 152 15 = 0 ∧ (((0 ≤ a ∧ a ≤ 3) ∧ (0 ≤ v ∧ v ≤ 99)) ∧ r = D 180 a ∧ D' 180 = zu (D 180) a v ∨ ¬ ((0 ≤ a ∧ a ≤ 3) ∧ (0 ≤ v ∧ v ≤ 99)) ∧ r = -1 ∧ D' 180 = D 180))) := by
  refine Cl_of mb_X10_leads (Nat.le_of_ble_eq_true rfl) (sg_X10_leads_0 ⟨rfl, fun m1 e1 => ?_⟩)
  obtain ⟨E, hE, fE, a15, cE, sE⟩ := m0 D
  have e1 : m1 = (E, rho n1 W) := by rw [hE]; exact e1
  subst e1
  have a177 : E 180 = D 180 := fE.obj (fun j => by omega)
  have mE : Fr (fun q j => q = 180 ∨ (q = 152 ∧ j = 15)) D E := fE.mono (fun q j z => Or.inr z)
  refine cB C_misWalk (fun hx => yE (cB C_in (fun hy => yN ⟨rfl, Or.inl rfl, bnd (N := 4) rfl hx.1 (by omega), fun v1 ev => ⟨rfl, bnd (N := 4) rfl hx.1 (by omega), fun m4 e4 => ?_⟩⟩) (fun hy => nN ⟨_, rfl, E, rfl, mE, a15, Or.inr ⟨fun q => hy q.2, rfl, a177⟩⟩))) (fun hx => nE ⟨_, rfl, E, rfl, mE, a15, Or.inr ⟨fun q => hx q.1, rfl, a177⟩⟩)
  have e4 : m4 = (wr E 180 a v, rho n1 W) := e4
  subst e4
  refine ⟨_, rfl, _, rfl, mE.wr (Or.inl rfl), by rw [wr_o (by decide), a15], Or.inl ⟨⟨hx, hy⟩, ?_, by rw [wr_A, a177]⟩⟩
  rw [ev, ← a177]
  rfl
theorem C_mfilm {p s t g : Int} (h0 : 0 ≤ D 152 59) (h1 : D 152 59 ≤ 20) : Cl (d + 1) 0 0 mX10_film [vr 152, vi p, vi s, vi t, vi g] (D, rho n1 W) (KI (fun r m => ∃ D', m = (D', rho n1 W) ∧ Fr (fun q j => (187 ≤ q ∧ q ≤ 190) ∨ (q = 152 ∧ (j = 59 ∨ j = 15))) D D' ∧ D' 152 15 = 0 ∧ ((okFilm p s t g ∧ D 152 59 < 20) ∧ r = D 152 59 + 1 ∧ mfilms D' = mfilms D ++ [(p, s, t, g)] ∧ D' 152 59 = D 152 59 + 1 ∨ ¬ (okFilm p s t g ∧ D 152 59 < 20) ∧ r = -1 ∧ mfilms D' = mfilms D ∧ D' 152 59 = D 152 59))) := by
  refine Cl_of mb_X10_film (Nat.le_of_ble_eq_true rfl) (sg_X10_film_0 ⟨rfl, fun m1 e1 => ?_⟩)
  obtain ⟨E, hE, fE, a15, cE, sE⟩ := m0 D
  have e1 : m1 = (E, rho n1 W) := by rw [hE]; exact e1
  subst e1
  have a59 : E 152 59 = D 152 59 := fE 152 59 (by omega)
  have eq : ∀ q, 187 ≤ q → q ≤ 190 → E q = D q := fun q a b => fE.obj (fun j => by omega)
  have eS : mfilms E = mfilms D := by
    unfold mfilms
    rw [a59, eq 187 (by decide) (by decide), eq 188 (by decide) (by decide), eq 189 (by decide) (by decide), eq 190 (by decide) (by decide)]
  have bad : ¬ (okFilm p s t g ∧ D 152 59 < 20) → KI (fun r m => ∃ D', m = (D', rho n1 W) ∧ Fr (fun q j => (187 ≤ q ∧ q ≤ 190) ∨ (q = 152 ∧ (j = 59 ∨ j = 15))) D D' ∧ D' 152 15 = 0 ∧ ((okFilm p s t g ∧ D 152 59 < 20) ∧ r = D 152 59 + 1 ∧ mfilms D' = mfilms D ++ [(p, s, t, g)] ∧ D' 152 59 = D 152 59 + 1 ∨ ¬ (okFilm p s t g ∧ D 152 59 < 20) ∧ r = -1 ∧ mfilms D' = mfilms D ∧ D' 152 59 = D 152 59)) (some (some (vi (-1)))) (E, rho n1 W) := fun hn => ⟨_, rfl, E, rfl, fE.mono (fun q j z => by omega), a15, Or.inr ⟨hn, rfl, eS, a59⟩⟩
  refine cB C_in (fun hp => yE (cB C_in (fun hs => yE (cB C_in (fun ht => yE (cB C_in (fun hg => yE ⟨rfl, ?_⟩) (fun hg => nE (bad (fun q => hg q.1.2.2.2))))) (fun ht => nE (bad (fun q => ht q.1.2.2.1))))) (fun hs => nE (bad (fun q => hs q.1.2.1))))) (fun hp => nE (bad (fun q => hp q.1.1)))
  rw [show mD (E, rho n1 W) 152 59 = D 152 59 from a59]
  refine ⟨fun c => ⟨rfl, bnd (N := 20) rfl h0 (by omega), fun m6 e6 => ?_⟩, fun c => bad (fun q => by omega)⟩
  obtain ⟨N, hN⟩ : ∃ N, N = D 152 59 := ⟨_, rfl⟩
  rw [← hN] at h0 h1 e6 a59 bad ⊢
  have e6 : m6 = (wr E 187 N p, rho n1 W) := e6
  subst e6
  have b1 : mD (wr E 187 N p, rho n1 W) 152 59 = N := by
    show wr E 187 N p 152 59 = N
    rw [wr_o (by decide)]
    exact a59
  rw [b1]
  refine ⟨rfl, bnd (N := 20) rfl h0 (by omega), fun m7 e7 => ?_⟩
  have e7 : m7 = (wr (wr E 187 N p) 188 N s, rho n1 W) := e7
  subst e7
  have b2 : mD (wr (wr E 187 N p) 188 N s, rho n1 W) 152 59 = N := by
    show wr (wr E 187 N p) 188 N s 152 59 = N
    rw [wr_o (by decide)]
    exact b1
  rw [b2]
  refine ⟨rfl, bnd (N := 20) rfl h0 (by omega), fun m8 e8 => ?_⟩
  have e8 : m8 = (wr (wr (wr E 187 N p) 188 N s) 189 N t, rho n1 W) := e8
  subst e8
  have b3 : mD (wr (wr (wr E 187 N p) 188 N s) 189 N t, rho n1 W) 152 59 = N := by
    show wr (wr (wr E 187 N p) 188 N s) 189 N t 152 59 = N
    rw [wr_o (by decide)]
    exact b2
  rw [b3]
  refine ⟨rfl, bnd (N := 20) rfl h0 (by omega), fun m9 e9 m10 e10 => ?_⟩
  have e9 : m9 = (wr (wr (wr (wr E 187 N p) 188 N s) 189 N t) 190 N g, rho n1 W) := e9
  subst e9
  have b4 : mD (wr (wr (wr (wr E 187 N p) 188 N s) 189 N t) 190 N g, rho n1 W) 152 59 = N := by
    show wr (wr (wr (wr E 187 N p) 188 N s) 189 N t) 190 N g 152 59 = N
    rw [wr_o (by decide)]
    exact b3
  rw [b4, w32_id (by omega) (by omega)] at e10
  obtain ⟨B, hB⟩ : ∃ B, B = wr (wr (wr (wr (wr E 187 N p) 188 N s) 189 N t) 190 N g) 152 59 (N + 1) := ⟨_, rfl⟩
  have e10 : m10 = (B, rho n1 W) := by rw [hB]; exact e10
  subst e10
  have fB : Fr (fun q j => (187 ≤ q ∧ q ≤ 190) ∨ (q = 152 ∧ (j = 59 ∨ j = 15))) E B := by
    rw [hB]
    exact ((((Fr.refl.wr (by omega)).wr (by omega)).wr (by omega)).wr (by omega)).wr (by omega)
  have b59 : B 152 59 = N + 1 := by rw [hB, wr_at]
  refine ⟨_, rfl, B, rfl, (fE.mono (fun q j z => by omega)).trans fB, ?_, Or.inl ⟨⟨⟨hp, hs, ht, hg⟩, by omega⟩, b59, ?_, b59⟩⟩
  · rw [hB, wr_j (by decide), wr_o (by decide), wr_o (by decide), wr_o (by decide), wr_o (by decide), a15]
  · have v : ∀ k : Int, (B 187 k, B 188 k, B 189 k, B 190 k) = if k = N then (p, s, t, g) else (D 187 k, D 188 k, D 189 k, D 190 k) := fun k => by
      rw [hB]
      by_cases q : k = N
      · rw [if_pos q, q]
        simp only [wr_at, wr_o (o := 187) (a := 152) (by decide), wr_o (o := 188) (a := 152) (by decide), wr_o (o := 189) (a := 152) (by decide), wr_o (o := 190) (a := 152) (by decide), wr_o (o := 187) (a := 190) (by decide), wr_o (o := 187) (a := 189) (by decide), wr_o (o := 187) (a := 188) (by decide), wr_o (o := 188) (a := 190) (by decide), wr_o (o := 188) (a := 189) (by decide), wr_o (o := 189) (a := 190) (by decide)]
      · rw [if_neg q]
        simp only [wr_j q, wr_o (o := 187) (a := 152) (by decide), wr_o (o := 188) (a := 152) (by decide), wr_o (o := 189) (a := 152) (by decide), wr_o (o := 190) (a := 152) (by decide), wr_o (o := 187) (a := 190) (by decide), wr_o (o := 187) (a := 189) (by decide), wr_o (o := 187) (a := 188) (by decide), wr_o (o := 188) (a := 190) (by decide), wr_o (o := 188) (a := 189) (by decide), wr_o (o := 189) (a := 190) (by decide), wr_o (o := 188) (a := 187) (by decide), wr_o (o := 189) (a := 187) (by decide), wr_o (o := 190) (a := 187) (by decide), wr_o (o := 189) (a := 188) (by decide), wr_o (o := 190) (a := 188) (by decide), wr_o (o := 190) (a := 189) (by decide), eq 187 (by decide) (by decide), eq 188 (by decide) (by decide), eq 189 (by decide) (by decide), eq 190 (by decide) (by decide)]
    unfold mfilms
    rw [b59, ← hN, show (N + 1).toNat = N.toNat + 1 by omega, List.range_succ, List.map_append]
    congr 1
    · refine List.map_congr_left fun k hk => ?_
      have := List.mem_range.mp hk
      rw [v, if_neg (by omega)]
    · show [(B 187 ((N.toNat : Nat) : Int), B 188 ((N.toNat : Nat) : Int), B 189 ((N.toNat : Nat) : Int), B 190 ((N.toNat : Nat) : Int))] = _
      rw [v, if_pos (by omega)]
end MFI
