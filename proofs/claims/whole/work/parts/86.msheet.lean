/-! ===== the model's sheet ===== -/
/-- behind the last GAP there is no wall -/
def HO (c : Cv) : Prop := ∀ k, cLast c ≤ k → k < 20 → cHole c k = 100
section MSH
variable {d n1 : Nat} {W : Nat → Nat} {D : DD}
theorem C_msheet {k n f st : Int} (l0 : 2 ≤ D 152 0) (l1 : D 152 0 ≤ 20) (hho : HO (mcup D)) : Cl (d + 1) 0 0 mX10_sheet [vr 152, vi k, vi n, vi f, vi st] (D, rho n1 W) (KI (fun r m => ∃ D', m = (D', rho n1 W) ∧ Fr (fun q j => q = 154 ∨ (q = 152 ∧ j = 15)) D D' ∧ D' 152 15 = 0 ∧ r = zsheetA (mcup D) k n f st ∧ mcup D' = zsheetC (mcup D) k n f st)) := by
  refine Cl_of mb_X10_sheet (Nat.le_of_ble_eq_true rfl) (sg_X10_sheet_0 ⟨rfl, fun m1 e1 => ?_⟩)
  obtain ⟨E, hE, fE, a15, cE, sE⟩ := m0 D
  have e1 : m1 = (E, rho n1 W) := by rw [hE]; exact e1
  subst e1
  have mE : Fr (fun q j => q = 154 ∨ (q = 152 ∧ j = 15)) D E := fE.mono (fun q j z => Or.inr z)
  have hc : cLast (mcup D) = D 152 0 - 1 := rfl
  have a0 : E 152 0 = D 152 0 := fE 152 0 (by omega)
  have wl : w32 (mD (E, rho n1 W) 152 0 - 1) = cLast (mcup D) := by
    show w32 (E 152 0 - 1) = _
    rw [a0, hc]
    exact w32_id (by omega) (by omega)
  have bad : ∀ x, x = zsheetA (mcup D) k n f st → zsheetC (mcup D) k n f st = mcup D → KI (fun r m => ∃ D', m = (D', rho n1 W) ∧ Fr (fun q j => q = 154 ∨ (q = 152 ∧ j = 15)) D D' ∧ D' 152 15 = 0 ∧ r = zsheetA (mcup D) k n f st ∧ mcup D' = zsheetC (mcup D) k n f st) (some (some (vi x))) (E, rho n1 W) := fun x hx hC => ⟨_, rfl, E, rfl, mE, a15, hx, by rw [cE, hC]⟩
  have main : (0 ≤ k ∧ k ≤ 3) → n ≤ cLast (mcup D) → (k = 3 ∨ 0 ≤ n) → Wp (d + 1) 0 0 mX10_sheet 47 [some (vr 152), some (vi k), some (vi n), some (vi f), some (vi st), some (vi 0), some (vi f), some (vi 0), none] [] (E, rho n1 W) (KI (fun r m => ∃ D', m = (D', rho n1 W) ∧ Fr (fun q j => q = 154 ∨ (q = 152 ∧ j = 15)) D D' ∧ D' 152 15 = 0 ∧ r = zsheetA (mcup D) k n f st ∧ mcup D' = zsheetC (mcup D) k n f st)) := by
    intro hk hn h3
    refine Wp.rngL (i := 6) (x := f) rfl fun rf => ?_
    unfold r32 at rf
    refine Wp.loop (σ := (Int × Int) × Int) (fun z => [some (vr 152), some (vi k), some (vi n), some (vi f), some (vi st), some (vi z.1.1), some (vi z.1.2), some (vi z.2), none])
      (fun z μ => ∃ H : DD, μ = (H, rho n1 W) ∧ Fr (fun q _ => q = 154) E H ∧ 0 ≤ z.2 ∧ z.2 ≤ cLast (mcup D) ∧ (k ≠ 3 → z.1.1 = zshs k n f st z.2.toNat) ∧ z.1.2 = w32 (f + w32 (z.2 * st)) ∧ ∀ g, H 154 g = if 0 ≤ g ∧ g < z.2 then (if k = 3 then 100 else zsh k n f st g) else E 154 g)
      (fun z => (cLast (mcup D) - z.2).toNat) ?_ ((0, f), 0) _ ⟨E, rfl, Fr.refl, Int.le_refl _, by dsimp only; omega, fun _ => rfl, ?_, fun g => (if_neg (by dsimp only; omega)).symm⟩
    rotate_left
    · dsimp only
      rw [show (0 : Int) * st = 0 by omega, w32_id (x := 0) (by omega) (by omega), w32_id (by omega) (by omega)]
      omega
    rintro ⟨⟨s, v⟩, i⟩ μ ⟨H, rfl, hF, i0, i1, hs, hv, hh⟩ ih
    dsimp only at i0 i1 hs hv hh ih ⊢
    have h0 : H 152 0 = D 152 0 := by rw [hF 152 0 (by omega), a0]
    have wl' : w32 (mD (H, rho n1 W) 152 0 - 1) = cLast (mcup D) := by
      show w32 (H 152 0 - 1) = _
      rw [h0, hc]
      exact w32_id (by omega) (by omega)
    have next : ∀ (G : DD) (x : Int), i < cLast (mcup D) → G = wr H 154 i x → (x = if k = 3 then 100 else zsh k n f st i) → ∀ v1, v1 = w32 (s + G 154 i) → ∀ v2, v2 = w32 (v + st) → ∀ v3, v3 = w32 (i + 1) → Wp (d + 1) 0 0 mX10_sheet 47 [some (vr 152), some (vi k), some (vi n), some (vi f), some (vi st), some (vi v1), some (vi v2), some (vi v3), none] [] (G, rho n1 W) (KI (fun r m => ∃ D', m = (D', rho n1 W) ∧ Fr (fun q j => q = 154 ∨ (q = 152 ∧ j = 15)) D D' ∧ D' 152 15 = 0 ∧ r = zsheetA (mcup D) k n f st ∧ mcup D' = zsheetC (mcup D) k n f st)) := by
      rintro G x hi rfl hx2 v1 rfl v2 rfl v3 rfl
      rw [w32_id (x := i + 1) (by omega) (by omega), wr_at]
      refine ih ((w32 (s + x), w32 (v + st)), i + 1) _ ⟨_, rfl, hF.wr rfl, by dsimp only; omega, by dsimp only; omega, fun n3 => ?_, ?_, fun g => ?_⟩ (by dsimp only; omega)
      · dsimp only
        rw [show (i + 1).toNat = i.toNat + 1 by omega]
        show _ = w32 (zshs k n f st i.toNat + zsh k n f st ((i.toNat : Nat) : Int))
        rw [← hs n3, show ((i.toNat : Nat) : Int) = i by omega, hx2, if_neg n3]
      · dsimp only
        rw [hv, show (i + 1) * st = i * st + st by rw [Int.add_mul, Int.one_mul]]
        generalize i * st = P
        unfold w32
        omega
      · dsimp only
        by_cases q : g = i
        · rw [q, wr_at, if_pos (by omega), hx2]
        · rw [wr_j q, hh g]
          by_cases q2 : 0 ≤ g ∧ g < i
          · rw [if_pos q2, if_pos (show 0 ≤ g ∧ g < i + 1 by omega)]
          · rw [if_neg q2, if_neg (show ¬ (0 ≤ g ∧ g < i + 1) by omega)]
    have done : cLast (mcup D) ≤ i → ∀ x, x = (if k = 3 then -3 else s) → KI (fun r m => ∃ D', m = (D', rho n1 W) ∧ Fr (fun q j => q = 154 ∨ (q = 152 ∧ j = 15)) D D' ∧ D' 152 15 = 0 ∧ r = zsheetA (mcup D) k n f st ∧ mcup D' = zsheetC (mcup D) k n f st) (some (some (vi x))) (H, rho n1 W) := by
      intro c x hx
      have ei : i = cLast (mcup D) := by omega
      refine ⟨_, rfl, H, rfl, mE.trans (hF.mono (fun q j z => Or.inl z)), by rw [hF 152 15 (by omega), a15], ?_, ?_⟩
      · unfold zsheetA
        rw [if_pos ⟨hk, hn⟩, hx]
        by_cases y : k = 3
        · rw [if_pos y, if_pos y]
        · rw [if_neg y, if_neg y, if_pos (h3.resolve_left y), hs y, ei]
      · unfold zsheetC
        rw [if_pos ⟨hk, hn⟩]
        have e1 : (H 152 0 - 1, H 152 1, H 152 2, cut 7 (H 153)) = (D 152 0 - 1, D 152 1, D 152 2, cut 7 (D 153)) := by
          rw [h0, hF 152 1 (by omega), hF 152 2 (by omega), hF.obj (o := 153) (fun j => by omega), fE 152 1 (by omega), fE 152 2 (by omega), fE.obj (o := 153) (fun j => by omega)]
        have hg : ∀ g, 0 ≤ g → g < 20 → H 154 g = if g < cLast (mcup D) then (if k = 3 then 100 else zsh k n f st g) else 100 := fun g g0 g1 => by
          rw [hh g, ei]
          by_cases q : g < cLast (mcup D)
          · rw [if_pos ⟨g0, q⟩, if_pos q]
          · rw [if_neg (fun z => q z.2), if_neg q]
            have := hho g (by omega) g1
            rw [← cE] at this
            exact (cut_in (f := E 154) g0 g1).symm.trans this
        by_cases y : k = 3
        · rw [if_pos y]
          show (H 152 0 - 1, H 152 1, H 152 2, cut 7 (H 153), cut 20 (H 154)) = (D 152 0 - 1, D 152 1, D 152 2, cut 7 (D 153), cut 20 (fun _ => 100))
          rw [cut_ext (f := H 154) (g := fun _ => 100) (fun g g0 g1 => by
            rw [hg g g0 g1, if_pos y]
            split <;> rfl)]
          rw [h0, hF 152 1 (by omega), hF 152 2 (by omega), hF.obj (o := 153) (fun j => by omega), fE 152 1 (by omega), fE 152 2 (by omega), fE.obj (o := 153) (fun j => by omega)]
        · rw [if_neg y, if_pos (h3.resolve_left y)]
          show (H 152 0 - 1, H 152 1, H 152 2, cut 7 (H 153), cut 20 (H 154)) = (D 152 0 - 1, D 152 1, D 152 2, cut 7 (D 153), zsheetH (mcup D) k n f st)
          have e2 : cut 20 (H 154) = zsheetH (mcup D) k n f st := by
            funext g
            unfold zsheetH
            by_cases q : 0 ≤ g ∧ g < 20
            · rw [cut_in q.1 q.2, hg g q.1 q.2]
              by_cases q2 : g < cLast (mcup D)
              · rw [if_pos q2, if_neg y, if_pos ⟨q.1, q2⟩]
              · rw [if_neg q2, if_neg (fun z => q2 z.2), hho g (by omega) q.2]
            · rw [cut_out q, if_neg (by omega)]
              exact (cut_out (f := D 154) q).symm
          rw [e2, h0, hF 152 1 (by omega), hF 152 2 (by omega), hF.obj (o := 153) (fun j => by omega), fE 152 1 (by omega), fE 152 2 (by omega), fE.obj (o := 153) (fun j => by omega)]
    have le19 : cLast (mcup D) ≤ 19 := by omega
    refine sg_X10_sheet_47 ⟨rfl, ?_⟩
    rw [wl']
    have b20 : i < cLast (mcup D) → i < ((20 : Nat) : Int) := fun z => by omega
    refine ⟨fun c => ⟨fun y => done c s (if_neg y).symm, fun y => done c (-3) (if_pos y).symm⟩, fun c => ⟨fun k0 => ⟨fun k1 => ⟨fun k3 => ?_, fun k3 => ⟨fun c2 => ?_, fun c2 => ?_⟩⟩, fun k1 => fun v10 e10 => ⟨fun k3 => absurd (k1.symm.trans k3) (by decide), fun k3 => ⟨fun c2 => ?_, fun c2 => ?_⟩⟩⟩, fun k0 => fun v20 e20 => ⟨fun k3 => absurd (k0.symm.trans k3) (by decide), fun k3 => ⟨fun c2 => ?_, fun c2 => ?_⟩⟩⟩⟩
    · refine ⟨rfl, bnd (N := 20) rfl i0 (b20 (by omega)), fun m1 e1 => ?_⟩
      have e1 : m1 = (wr H 154 i 100, rho n1 W) := e1
      subst e1
      exact ⟨Or.inl rfl, bnd (N := 20) rfl i0 (b20 (by omega)), next _ 100 (by omega) rfl (if_pos k3).symm⟩
    · refine cP C_min (cP C_max ⟨rfl, bnd (N := 20) rfl i0 (b20 (by omega)), fun m1 e1 => ?_⟩)
      have e1 : m1 = (wr H 154 i (max 0 (min 100 v)), rho n1 W) := e1
      subst e1
      refine ⟨rfl, Or.inl rfl, bnd (N := 20) rfl i0 (b20 (by omega)), next _ _ (by omega) rfl ?_⟩
      rw [if_neg k3]
      unfold zsh zent btw
      rw [if_neg (show ¬ n ≤ i by omega), if_neg k0, if_neg k1, ← hv]
      omega
    · refine ⟨rfl, bnd (N := 20) rfl i0 (b20 (by omega)), fun m1 e1 => ?_⟩
      have e1 : m1 = (wr H 154 i 100, rho n1 W) := e1
      subst e1
      refine ⟨Or.inl rfl, bnd (N := 20) rfl i0 (b20 (by omega)), next _ 100 (by omega) rfl ?_⟩
      rw [if_neg k3]
      exact (if_pos (show n ≤ i by omega)).symm
    · refine cP C_min (cP C_max ⟨rfl, bnd (N := 20) rfl i0 (b20 (by omega)), fun m1 e1 => ?_⟩)
      have e1 : m1 = (wr H 154 i (max 0 (min 100 v10)), rho n1 W) := e1
      subst e1
      refine ⟨rfl, Or.inl rfl, bnd (N := 20) rfl i0 (b20 (by omega)), next _ _ (by omega) rfl ?_⟩
      rw [if_neg k3]
      unfold zsh zent btw
      rw [if_neg (show ¬ n ≤ i by omega), if_neg k0, if_pos k1, ← hv, ← e10]
      omega
    · refine ⟨rfl, bnd (N := 20) rfl i0 (b20 (by omega)), fun m1 e1 => ?_⟩
      have e1 : m1 = (wr H 154 i 100, rho n1 W) := e1
      subst e1
      refine ⟨Or.inl rfl, bnd (N := 20) rfl i0 (b20 (by omega)), next _ 100 (by omega) rfl ?_⟩
      rw [if_neg k3]
      exact (if_pos (show n ≤ i by omega)).symm
    · refine cP C_min (cP C_max ⟨rfl, bnd (N := 20) rfl i0 (b20 (by omega)), fun m1 e1 => ?_⟩)
      have e1 : m1 = (wr H 154 i (max 0 (min 100 v20)), rho n1 W) := e1
      subst e1
      refine ⟨rfl, Or.inl rfl, bnd (N := 20) rfl i0 (b20 (by omega)), next _ _ (by omega) rfl ?_⟩
      rw [if_neg k3]
      unfold zsh zent btw
      rw [if_neg (show ¬ n ≤ i by omega), if_pos k0, ← hv, ← e20]
      omega
    · refine ⟨rfl, bnd (N := 20) rfl i0 (b20 (by omega)), fun m1 e1 => ?_⟩
      have e1 : m1 = (wr H 154 i 100, rho n1 W) := e1
      subst e1
      refine ⟨Or.inl rfl, bnd (N := 20) rfl i0 (b20 (by omega)), next _ 100 (by omega) rfl ?_⟩
      rw [if_neg k3]
      exact (if_pos (show n ≤ i by omega)).symm
  refine cB C_in (fun hx => yE ⟨rfl, ?_⟩) (fun hx => nE (bad (-1) ?_ ?_))
  · rw [wl]
    refine ⟨fun c => ⟨fun c3 => main hx c (Or.inl (by omega)), fun c3 => ⟨fun cn => main hx c (Or.inr cn), fun cn => bad (-2) ?_ ?_⟩⟩, fun c => bad (-1) ?_ ?_⟩
    · unfold zsheetA
      rw [if_pos ⟨hx, c⟩, if_neg (by omega), if_neg cn]
    · unfold zsheetC
      rw [if_pos ⟨hx, c⟩, if_neg (by omega), if_neg cn]
    · unfold zsheetA
      rw [if_neg (fun q => c q.2)]
    · unfold zsheetC
      rw [if_neg (fun q => c q.2)]
  · unfold zsheetA
    rw [if_neg (fun q => hx q.1)]
  · unfold zsheetC
    rw [if_neg (fun q => hx q.1)]
end MSH
