/-! ===== the model's plan ===== -/
section MPQ
variable {d n1 : Nat} {W V : Nat → Nat} {D E : DD} {lw : Int → Option (List Int)} {c : Cv}
theorem C_mplan {goal : Int} (hm : MRun D lw) (hmets : ∀ j, 0 ≤ j → j < 4 → 0 ≤ D 180 j ∧ D 180 j ≤ 99) : Cl (d + 135) 0 0 mX10_plan [vr 152, vi goal] (D, rho n1 W) (KI (Was n1 D W (S_plan (mcup D) (mhl D lw) (wkm D) (D 180) goal))) := by
  refine Cl_of mb_X10_plan (Nat.le_of_ble_eq_true rfl) (sg_X10_plan_0 ⟨rfl, fun m1 e1 => ?_⟩)
  obtain ⟨E, hE⟩ : ∃ E, E = wr D 152 15 0 := ⟨_, rfl⟩
  have e1 : m1 = (E, rho n1 W) := by rw [hE]; exact e1
  subst e1
  have h0 : MAc D W E W (mcup D) := MAc.beg hE
  refine cB C_in (fun hg => yN ⟨rfl, cV (C_mputBy (D := E) (i := 3) (by decide) (by decide)) ?_⟩) (fun hg => nN ⟨_, rfl, Was_no h0 (by unfold S_plan; rw [if_neg hg]) (by unfold S_plan; rw [if_neg hg])⟩)
  obtain ⟨Z, hZ⟩ : ∃ Z, Z = zext (mcup D) (mhl D lw) (wkm D) (D 180) goal 4 (zS (zbeg0 (mcup D) 1)) [] 0 0 (2147483647, []) := ⟨_, rfl⟩
  have hS : S_plan (mcup D) (mhl D lw) (wkm D) (D 180) goal = if Z.2 = [] then (-2, none) else (Z.1, some Z.2) := by
    rw [hZ]
    exact if_pos hg
  generalize S_plan (mcup D) (mhl D lw) (wkm D) (D 180) goal = S at hS ⊢
  rintro m ⟨D1, rfl, f1, k1⟩
  refine Wp.loop (σ := Int) (fun i => [some (vr 152), some (vi goal), some (vi i)])
    (fun i μ => ∃ H : DD, μ = (H, rho n1 W) ∧ 0 ≤ i ∧ i ≤ 105 ∧ Fr (fun q _ => q = 184) D1 H ∧ ∀ o, 0 ≤ o → o < i → H 184 o = D1 177 (105 * 3 + o))
    (fun i => (105 - i).toNat) ?_ 0 _ ⟨D1, rfl, by decide, by decide, Fr.refl, fun o a b => by omega⟩
  rintro i μ ⟨H, rfl, i0, i1, hF, ho⟩ ih
  refine sg_X10_plan_25 ⟨fun cc => ⟨rfl, cV (C_mbegin (D := H)) ?_⟩, fun cc => ⟨rfl, Or.inl rfl, ?_⟩⟩
  rotate_left
  · rw [w32_id (x := 315 + i) (by omega) (by omega)]
    refine ⟨bnd (N := 420) rfl (by omega) (by show 315 + i < 420; omega), rfl, bnd (N := 105) rfl i0 (by omega), fun m1 e1 v ev => ?_⟩
    have e1 : m1 = (wr H 184 i (D1 177 (105 * 3 + i)), rho n1 W) := by
      have h174 : H 177 (315 + i) = D1 177 (105 * 3 + i) := hF 177 _ (by omega)
      rw [← h174]
      exact e1
    subst e1
    rw [w32_id (by omega) (by omega)] at ev
    subst ev
    refine ih (i + 1) _ ⟨_, rfl, by omega, by omega, hF.wr rfl, fun o a b => ?_⟩ (by omega)
    by_cases q : o = i
    · rw [q, wr_at]
    · rw [wr_j q]
      exact ho o a (by omega)
  have k181 : mkv H 184 0 = mst E := by
    rw [← k1]
    exact mkv_ext (fun o a b => by rw [Int.zero_add]; exact ho o a (by omega))
  have FH : Fr maF E H := (f1.mono (fun q j z => by unfold pkF at z; unfold maF; omega)).trans (hF.mono (fun q j z => by unfold maF; omega))
  have cH : mcup H = mcup D := by
    rw [mcup_fr hF (fun j x y => by omega) (fun q j x y => by omega), mcup_fr f1 (fun j x y => by unfold pkF; omega) (fun q j x y => by unfold pkF; omega)]
    exact h0.2.2.2.1
  clear ih ho
  rintro m ⟨D2, rfl, f2, h2⟩
  rw [cH] at h2
  refine ⟨rfl, fun m2 e2 => ?_⟩
  have e2 : m2 = (wr D2 152 10 1, rho n1 W) := e2
  subst e2
  refine cV (C_mwatch (D := wr D2 152 10 1)) ?_
  rintro m ⟨D4, rfl, f4, w40, w41, w42, w44⟩
  refine ⟨rfl, fun m4 e4 => ?_⟩
  obtain ⟨D5, hD5⟩ : ∃ D5, D5 = wr D4 152 52 (-1) := ⟨_, rfl⟩
  have e4 : m4 = (D5, rho n1 W) := by rw [hD5]; exact e4
  subst e4
  have fw : Fr (fun q j => q = 152 ∧ j = 10) D2 (wr D2 152 10 1) := Fr.refl.wr ⟨rfl, rfl⟩
  have f5 : Fr (fun q j => q = 152 ∧ j = 52) D4 D5 := by
    rw [hD5]
    exact Fr.refl.wr ⟨rfl, rfl⟩
  have F25 : Fr (fun q j => (q = 152 ∧ (j = 5 ∨ j = 10 ∨ j = 40 ∨ j = 41 ∨ j = 42 ∨ j = 44 ∨ j = 52)) ∨ (155 ≤ q ∧ q ≤ 157)) H D5 := (((f2.mono (fun q j z => by unfold mbF at z; omega)).trans (fw.mono (fun q j z => by omega))).trans (f4.mono (fun q j z => by unfold wtF at z; omega))).trans (f5.mono (fun q j z => by omega))
  have s5 : mst D5 = (0, 1, zfr (cFill (mcup D)), zfr (cFill (mcup D)), sSeen (mst H)) := by
    rw [mst_fr f5 (by omega) (by omega) (fun q j x y => by omega), mst_fr f4 (by unfold wtF; omega) (by unfold wtF; omega) (fun q j x y => by unfold wtF; omega)]
    have e : mst (wr D2 152 10 1) = (sTick (mst D2), 1, (mst D2).2.2) := by
      unfold mst mrow
      rw [wr_at, wr_j (by decide), wr_o (by decide), wr_o (by decide), wr_o (by decide), wr_o (by decide)]
      rfl
    rw [e, h2]
    rfl
  have c5 : mcup D5 = mcup D := by rw [mcup_fr F25 (fun j x y => by omega) (fun q j x y => by omega), cH]
  have hc := hm.2.1
  have fillOK : HOK (zfr (cFill (mcup D))).1 := HOK_fresh hc.2.2.2.2.1 (by have := hc.2.2.2.2.2.1; have := hc.2.2.2.1; omega)
  have F05 : ∀ q j, ¬ maF q j → D5 q j = D q j := fun q j hn => by
    rw [F25 q j (fun z => hn (by unfold maF; omega)), FH q j hn, h0.2.1 q j hn]
  have hmE := h0.mr hm hm.2.1
  have hm5 : MRun D5 lw := by
    have F : Fr maF E D5 := FH.trans (F25.mono (fun q j z => by unfold maF; omega))
    have hc5 : COK (mcup D5) := by rw [c5]; exact hc
    refine ⟨hc5.mb, hc5, ?_, hmE.2.2.2.1.fr F (fun q j x y => by unfold maF; omega), fun a a0 a1 => ?_⟩
    · rw [s5]
      exact ⟨fillOK, fillOK, Int.le_refl 0⟩
    · rw [F 161 a (by unfold maF; omega)]
      exact hmE.2.2.2.2 a a0 a1
  have l5 : mhl D5 lw = mhl D lw := by unfold mhl; rw [c5]
  have w5 : ∀ a, wkm D5 a = wkm D a := fun a => by
    rw [wkm_fr (F := maF) (FH.trans (F25.mono (fun q j z => by unfold maF; omega))) (fun q j x y => by unfold maF; omega), h0.wk a]
  have e44 : D5 152 44 = 0 := by rw [f5 152 44 (by omega), w44]
  have e52 : D5 152 52 = -1 := by rw [hD5, wr_at]
  have hPL : PLN D5 lw 0 := ⟨hm5, fun j j0 j1 => by rw [F05 180 j (by unfold maF; omega)]; exact hmets j j0 j1, by omega, by rw [s5]; show (0 : Int) ≤ 1000 * 0; decide⟩
  refine cV (C_mplanFrom (c := mcup D) (L := mhl D lw) (ws := wkm D) (mets := D 180) (goal := goal) 4 (D := D5) (k := 0) (left := goal) (tk := 0) (led := 0) (s := zS (zbeg0 (mcup D) 1)) (row := []) (b := (2147483647, [])) hPL c5 l5 (fun a a0 a1 => ⟨w5 a, F05 180 a (by unfold maF; omega)⟩) (by decide) (by decide) (by decide) (by omega) (by decide) (by decide) (by omega) hg.2 (by decide) (by decide) (lst_0 (by decide)) ?_ (Or.inl ⟨e52, rfl⟩)) ?_
  · rw [s5]
    exact ⟨rfl, rfl, rfl, rfl, fun k a _ d => absurd (show k < 0 from d) (by omega)⟩
  rintro m ⟨D6, V, rfl, hV, f6, s6, g44, hPB⟩
  rw [← hZ] at hPB
  have k6 : ∀ o, 0 ≤ o → o < 105 → D6 184 o = H 184 o := fun o a b => by rw [f6 184 o (by unfold mplF mgF; omega), F25 184 o (by omega)]
  refine Wp.loop (σ := Int) (fun i => [some (vr 152), some (vi goal), some (vi i)])
    (fun i μ => ∃ G : DD, μ = (G, rho n1 V) ∧ 0 ≤ i ∧ i ≤ 105 ∧ Fr (fun q j => q = 177 ∧ 315 ≤ j) D6 G ∧ ∀ o, 0 ≤ o → o < i → G 177 (105 * 3 + o) = H 184 o)
    (fun i => (105 - i).toNat) ?_ 0 _ ⟨D6, rfl, by decide, by decide, Fr.refl, fun o a b => by omega⟩
  rintro i μ ⟨G, rfl, i0, i1, hG, ho⟩ ih
  refine sg_X10_plan_80 ⟨fun cc => ⟨rfl, cV (C_mbringBack (D := G) (i := 3) (by decide) (by decide)) ?_⟩, fun cc => ⟨rfl, Or.inl rfl, ?_⟩⟩
  rotate_left
  · refine ⟨bnd (N := 105) rfl i0 (by omega), rfl, ?_⟩
    rw [w32_id (x := 315 + i) (by omega) (by omega)]
    refine ⟨bnd (N := 420) rfl (by omega) (by show 315 + i < 420; omega), fun m1 e1 v ev => ?_⟩
    have e1 : m1 = (wr G 177 (315 + i) (H 184 i), rho n1 V) := by
      have h181 : G 184 i = H 184 i := by rw [hG 184 i (by omega)]; exact k6 i i0 (by omega)
      rw [← h181]
      exact e1
    subst e1
    rw [w32_id (by omega) (by omega)] at ev
    subst ev
    refine ih (i + 1) _ ⟨_, rfl, by omega, by omega, hG.wr ⟨rfl, by omega⟩, fun o a b => ?_⟩ (by omega)
    by_cases q : o = i
    · rw [q, show 105 * 3 + i = 315 + i by omega, wr_at]
    · rw [wr_j (by omega)]
      exact ho o a (by omega)
  rintro m ⟨K, rfl, fK, hK⟩
  have kG : mkv G 177 (105 * 3) = mst E := by
    rw [← k181]
    exact mkv_ext (fun o a b => by rw [Int.zero_add]; exact ho o a (by omega))
  have FK : Fr maF E K := (((FH.trans (F25.mono (fun q j z => by unfold maF; omega))).trans (f6.mono (fun q j z => by unfold mplF mgF at z; unfold maF; omega))).trans (hG.mono (fun q j z => by unfold maF; omega))).trans (fK.mono (fun q j z => by unfold bbF at z; unfold maF; omega))
  have hKA : MAc D W K V (mcup D) := by
    obtain ⟨a1, a2, a3, a4, a5, a6⟩ := h0
    have nm : ∀ q j, (q = 152 ∧ (j = 0 ∨ j = 1 ∨ j = 2 ∨ j = 14 ∨ j = 15)) ∨ q = 153 ∨ q = 154 ∨ q = 160 → K q j = E q j := fun q j hq => by
      rw [fK q j (by unfold bbF; omega), hG q j (by omega), f6 q j (by unfold mplF mgF; omega), F25 q j (by omega), hF q j (by omega), f1 q j (by unfold pkF; omega)]
    refine ⟨hV, a2.trans FK, by rw [hK, kG, a3], ?_, by rw [nm 152 15 (by omega)]; exact a5, ?_⟩
    · rw [← a4]
      unfold mcup
      rw [nm 152 0 (by omega), nm 152 1 (by omega), nm 152 2 (by omega), funext (fun j => nm 153 j (by omega)), funext (fun j => nm 154 j (by omega))]
    · rw [← a6]
      unfold MTV mtoldv
      rw [nm 152 14 (by omega), funext (fun j => nm 160 j (by omega))]
  have p52 : K 152 52 = D6 152 52 := by rw [fK 152 52 (by unfold bbF; omega), hG 152 52 (by omega)]
  have p53 : K 152 53 = D6 152 53 := by rw [fK 152 53 (by unfold bbF; omega), hG 152 53 (by omega)]
  have p179 : K 182 = D6 182 := by
    funext j
    rw [fK 182 j (by unfold bbF; omega), hG 182 j (by omega)]
  have hPK : PB K Z := by
    unfold PB
    rw [p52, p53, p179]
    exact hPB
  refine ⟨rfl, fun c6 m2 e2 => ?_, fun c6 => ⟨_, rfl, ?_⟩⟩
  · have c6 : ¬ K 152 52 = -1 := c6
    rcases hPK with ⟨r1, -⟩ | ⟨r1, r2, r3⟩
    · exact absurd r1 c6
    have e2 : m2 = (wr K 152 14 0, rho n1 V) := e2
    subst e2
    refine Wp.loop (σ := Int) (fun i => [some (vr 152), some (vi goal), some (vi i)])
      (fun i μ => ∃ G : DD, μ = (G, rho n1 V) ∧ 0 ≤ i ∧ i ≤ K 152 52 ∧ MTl K G (lst (K 182) i))
      (fun i => (K 152 52 - i).toNat) ?_ 0 _ ⟨_, rfl, by decide, by omega, by rw [lst_0 (by decide)]; exact MTl.beg⟩
    clear ih
    rintro j μ ⟨T, rfl, j0, j1, hT⟩ ih
    have t52 : mD (T, rho n1 V) 152 52 = K 152 52 := hT.1 152 52 (by unfold mtF; omega)
    have t53 : mD (T, rho n1 V) 152 53 = K 152 53 := hT.1 152 53 (by unfold mtF; omega)
    have t179 : mD (T, rho n1 V) (mR (T, rho n1 V) 152 51) j = K 182 j := hT.1 182 j (by unfold mtF; omega)
    refine sg_X10_plan_131 ⟨rfl, ?_⟩
    rw [t52, t53, t179]
    refine ⟨fun c7 => ⟨_, rfl, ?_⟩, fun c7 => ⟨Or.inl rfl, bnd (N := 4) rfl j0 (by omega), cV (C_mtl hT (by rw [lst_len]; omega)) ?_⟩⟩
    · have ej : j = K 152 52 := by omega
      rw [ej] at hT
      have hne : ¬ Z.2 = [] := by
        rw [r3]
        show ¬ lst (K 182) (K 152 52) = []
        intro hl
        have := congrArg List.length hl
        rw [lst_len, List.length_nil] at this
        omega
      rw [if_neg hne, r3] at hS
      exact Was_tell hKA hT (by rw [hS]) (by rw [hS])
    · rintro m ⟨T2, rfl, hT2⟩ v ev
      rw [w32_id (by omega) (by omega)] at ev
      subst ev
      exact ih (j + 1) _ ⟨T2, rfl, by omega, by omega, by rw [lst_s j0]; exact hT2⟩ (by omega)
  · have c6 : K 152 52 = -1 := c6
    rcases hPK with ⟨-, r2⟩ | ⟨r1, -, -⟩
    · rw [r2, if_pos rfl] at hS
      exact Was_no hKA (by rw [hS]) (by rw [hS])
    · omega
end MPQ
