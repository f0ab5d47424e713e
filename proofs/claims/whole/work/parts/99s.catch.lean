/-! ===== the law's four calls that catch ===== -/
section LHC
variable {d n1 : Nat} {D : DD} {W : Nat → Nat} {r i w : Int} {P : Option Int → Mem → Prop}
/-- what a catching call leaves: 1 if it was thrown, else 0 and the answer in out -/
def Hq (P : Option Int → Mem → Prop) (x : Int) (m : Mem) : Prop := ∃ m0 : Mem, (P none m0 ∧ x = 1 ∧ m = m0) ∨ ∃ y, P (some y) m0 ∧ x = 0 ∧ m = sD m0 193 0 y
theorem law_cl : Cond.classLink (onm 11) 13 "java/util/NoSuchElementException" ∈ bigW := List.mem_filter.mpr ⟨by decide +kernel, rfl⟩
theorem H_cell (hC : Cl d 1 6 mX9_cell [vr 4, vi r, vi i, vi w] (D, rho n1 W) (KX P)) (hP : ∀ o m, P o m → ∃ (D1 : DD) (W1 : Nat → Nat), m = (D1, rho n1 W1)) : Cl (d + 1) 1 6 mL_cell [vr 4, vi r, vi i, vi w, vr 193] (D, rho n1 W) (KI (Hq P)) := by
  refine Cl_of mb_L_cell (Nat.le_of_ble_eq_true rfl) ?_
  show Wp (d + 1) 1 6 mL_cell 0 [some (vr 4), some (vi r), some (vi i), some (vi w), some (vr 193), none] [] (D, rho n1 W) _
  refine st_aload (pc := 0) (i := 4) dL_cell_0 rfl ?_
  refine sg_iconst (pc := 2) dL_cell_2 (by omega) ?_
  refine st_aload_n (pc := 3) (i := 0) dL_cell_3 rfl rfl ?_
  refine st_iload_n (pc := 4) (i := 1) dL_cell_4 rfl rfl ?_
  refine st_iload_n (pc := 5) (i := 2) dL_cell_5 rfl rfl ?_
  refine st_iload_n (pc := 6) (i := 3) dL_cell_6 rfl rfl ?_
  refine st_callC (ins := .ireturn) (pc := 7) (b := 4) (k := 5) (av := [vi r, vi i, vi w]) (st := [vi 0, vr 193]) (ls := [some (vr 4), some (vi r), some (vi i), some (vi w), some (vr 193), none]) dL_cell_7 ck_11_7 rfl (by show (9 : Nat) ≤ 10; decide) rfl (by show (2 : Nat) ≤ 8; decide) hC (Nat.le_refl _) (Nat.le_refl _) rfl (by decide) (by decide) law_cl (Or.inl ⟨dL_cell_15, rfl⟩) (by show (5 : Nat) < 6; decide) (fun ra μ' hK => ?_) (fun μ' hK => ?_)
  · rcases hK with ⟨y, e, hp⟩ | ⟨e, -⟩
    · obtain ⟨D1, W1, rfl⟩ := hP _ _ hp
      have e := Option.some.inj e
      subst e
      refine st_i2l (pc := 10) dL_cell_10 ?_
      refine st_lastore (pc := 11) (a := 193) (i := 0) dL_cell_11 rfl (by decide) (by show (0 : Int) < ((1 : Nat) : Int); decide) ?_
      refine st_goto (pc := 12) (tgt := 19) dL_cell_12 rfl ?_
      refine sg_iconst (pc := 19) dL_cell_19 (by omega) ?_
      refine st_ireturn (pc := 20) dL_cell_20 (Or.inl rfl) ?_
      exact ⟨0, rfl, (D1, rho n1 W1), Or.inr ⟨y, hp, rfl, rfl⟩⟩
    · cases e
  · rcases hK with ⟨y, e, hp⟩ | ⟨-, hp⟩
    · cases e
    · obtain ⟨D1, W1, rfl⟩ := hP _ _ hp
      refine sg_iconst (pc := 17) dL_cell_17 (by omega) ?_
      refine st_ireturn (pc := 18) dL_cell_18 (Or.inl rfl) ?_
      exact ⟨1, rfl, (D1, rho n1 W1), Or.inl ⟨hp, rfl, rfl⟩⟩
theorem H_of (hC : Cl d 1 6 mX9_of [vr 4, vi r, vi w] (D, rho n1 W) (KX P)) (hP : ∀ o m, P o m → ∃ (D1 : DD) (W1 : Nat → Nat), m = (D1, rho n1 W1)) : Cl (d + 1) 1 6 mL_of [vr 4, vi r, vi w, vr 193] (D, rho n1 W) (KI (Hq P)) := by
  refine Cl_of mb_L_of (Nat.le_of_ble_eq_true rfl) ?_
  show Wp (d + 1) 1 6 mL_of 0 [some (vr 4), some (vi r), some (vi w), some (vr 193), none] [] (D, rho n1 W) _
  refine st_aload_n (pc := 0) (i := 3) dL_of_0 rfl rfl ?_
  refine sg_iconst (pc := 1) dL_of_1 (by omega) ?_
  refine st_aload_n (pc := 2) (i := 0) dL_of_2 rfl rfl ?_
  refine st_iload_n (pc := 3) (i := 1) dL_of_3 rfl rfl ?_
  refine st_iload_n (pc := 4) (i := 2) dL_of_4 rfl rfl ?_
  refine st_callC (ins := .ireturn) (pc := 5) (b := 4) (k := 4) (av := [vi r, vi w]) (st := [vi 0, vr 193]) (ls := [some (vr 4), some (vi r), some (vi w), some (vr 193), none]) dL_of_5 ck_11_15 rfl (by show (9 : Nat) ≤ 10; decide) rfl (by show (2 : Nat) ≤ 8; decide) hC (Nat.le_refl _) (Nat.le_refl _) rfl (by decide) (by decide) law_cl (Or.inl ⟨dL_of_13, rfl⟩) (by show (4 : Nat) < 5; decide) (fun ra μ' hK => ?_) (fun μ' hK => ?_)
  · rcases hK with ⟨y, e, hp⟩ | ⟨e, -⟩
    · obtain ⟨D1, W1, rfl⟩ := hP _ _ hp
      have e := Option.some.inj e
      subst e
      refine st_i2l (pc := 8) dL_of_8 ?_
      refine st_lastore (pc := 9) (a := 193) (i := 0) dL_of_9 rfl (by decide) (by show (0 : Int) < ((1 : Nat) : Int); decide) ?_
      refine st_goto (pc := 10) (tgt := 17) dL_of_10 rfl ?_
      refine sg_iconst (pc := 17) dL_of_17 (by omega) ?_
      refine st_ireturn (pc := 18) dL_of_18 (Or.inl rfl) ?_
      exact ⟨0, rfl, (D1, rho n1 W1), Or.inr ⟨y, hp, rfl, rfl⟩⟩
    · cases e
  · rcases hK with ⟨y, e, hp⟩ | ⟨-, hp⟩
    · cases e
    · obtain ⟨D1, W1, rfl⟩ := hP _ _ hp
      refine sg_iconst (pc := 15) dL_of_15 (by omega) ?_
      refine st_ireturn (pc := 16) dL_of_16 (Or.inl rfl) ?_
      exact ⟨1, rfl, (D1, rho n1 W1), Or.inl ⟨hp, rfl, rfl⟩⟩
theorem H_gives (hC : Cl d 1 6 mX9_gives [vr 4, vi r, vi w] (D, rho n1 W) (KX P)) (hP : ∀ o m, P o m → ∃ (D1 : DD) (W1 : Nat → Nat), m = (D1, rho n1 W1)) : Cl (d + 1) 1 6 mL_gives [vr 4, vi r, vi w, vr 193] (D, rho n1 W) (KI (Hq P)) := by
  refine Cl_of mb_L_gives (Nat.le_of_ble_eq_true rfl) ?_
  show Wp (d + 1) 1 6 mL_gives 0 [some (vr 4), some (vi r), some (vi w), some (vr 193), none] [] (D, rho n1 W) _
  refine st_aload_n (pc := 0) (i := 3) dL_gives_0 rfl rfl ?_
  refine sg_iconst (pc := 1) dL_gives_1 (by omega) ?_
  refine st_aload_n (pc := 2) (i := 0) dL_gives_2 rfl rfl ?_
  refine st_iload_n (pc := 3) (i := 1) dL_gives_3 rfl rfl ?_
  refine st_iload_n (pc := 4) (i := 2) dL_gives_4 rfl rfl ?_
  refine st_callC (ins := .ireturn) (pc := 5) (b := 4) (k := 4) (av := [vi r, vi w]) (st := [vi 0, vr 193]) (ls := [some (vr 4), some (vi r), some (vi w), some (vr 193), none]) dL_gives_5 ck_11_19 rfl (by show (9 : Nat) ≤ 10; decide) rfl (by show (2 : Nat) ≤ 8; decide) hC (Nat.le_refl _) (Nat.le_refl _) rfl (by decide) (by decide) law_cl (Or.inl ⟨dL_gives_13, rfl⟩) (by show (4 : Nat) < 5; decide) (fun ra μ' hK => ?_) (fun μ' hK => ?_)
  · rcases hK with ⟨y, e, hp⟩ | ⟨e, -⟩
    · obtain ⟨D1, W1, rfl⟩ := hP _ _ hp
      have e := Option.some.inj e
      subst e
      refine st_i2l (pc := 8) dL_gives_8 ?_
      refine st_lastore (pc := 9) (a := 193) (i := 0) dL_gives_9 rfl (by decide) (by show (0 : Int) < ((1 : Nat) : Int); decide) ?_
      refine st_goto (pc := 10) (tgt := 17) dL_gives_10 rfl ?_
      refine sg_iconst (pc := 17) dL_gives_17 (by omega) ?_
      refine st_ireturn (pc := 18) dL_gives_18 (Or.inl rfl) ?_
      exact ⟨0, rfl, (D1, rho n1 W1), Or.inr ⟨y, hp, rfl, rfl⟩⟩
    · cases e
  · rcases hK with ⟨y, e, hp⟩ | ⟨-, hp⟩
    · cases e
    · obtain ⟨D1, W1, rfl⟩ := hP _ _ hp
      refine sg_iconst (pc := 15) dL_gives_15 (by omega) ?_
      refine st_ireturn (pc := 16) dL_gives_16 (Or.inl rfl) ?_
      exact ⟨1, rfl, (D1, rho n1 W1), Or.inl ⟨hp, rfl, rfl⟩⟩
theorem H_row (hC : Cl d 1 6 mX9_row [vr 4, vi r] (D, rho n1 W) (KXL P)) (hP : ∀ o m, P o m → ∃ (D1 : DD) (W1 : Nat → Nat), m = (D1, rho n1 W1)) : Cl (d + 1) 1 6 mL_row [vr 4, vi r, vr 193] (D, rho n1 W) (KI (Hq P)) := by
  refine Cl_of mb_L_row (Nat.le_of_ble_eq_true rfl) ?_
  show Wp (d + 1) 1 6 mL_row 0 [some (vr 4), some (vi r), some (vr 193), none] [] (D, rho n1 W) _
  refine st_aload_n (pc := 0) (i := 2) dL_row_0 rfl rfl ?_
  refine sg_iconst (pc := 1) dL_row_1 (by omega) ?_
  refine st_aload_n (pc := 2) (i := 0) dL_row_2 rfl rfl ?_
  refine st_iload_n (pc := 3) (i := 1) dL_row_3 rfl rfl ?_
  refine st_callC (ins := .ireturn) (pc := 4) (b := 4) (k := 3) (av := [vi r]) (st := [vi 0, vr 193]) (ls := [some (vr 4), some (vi r), some (vr 193), none]) dL_row_4 ck_11_22 rfl (by show (9 : Nat) ≤ 10; decide) rfl (by show (2 : Nat) ≤ 8; decide) hC (Nat.le_refl _) (Nat.le_refl _) rfl (by decide) (by decide) law_cl (Or.inr ⟨3, rfl, dL_row_11, rfl⟩) (by show (3 : Nat) < 4; decide) (fun ra μ' hK => ?_) (fun μ' hK => ?_)
  · rcases hK with ⟨y, e, hp⟩ | ⟨e, -⟩
    · obtain ⟨D1, W1, rfl⟩ := hP _ _ hp
      have e := Option.some.inj e
      subst e
      refine st_lastore (pc := 7) (a := 193) (i := 0) dL_row_7 rfl (by decide) (by show (0 : Int) < ((1 : Nat) : Int); decide) ?_
      refine st_goto (pc := 8) (tgt := 14) dL_row_8 rfl ?_
      refine sg_iconst (pc := 14) dL_row_14 (by omega) ?_
      refine st_ireturn (pc := 15) dL_row_15 (Or.inl rfl) ?_
      exact ⟨0, rfl, (D1, rho n1 W1), Or.inr ⟨y, hp, rfl, rfl⟩⟩
    · cases e
  · rcases hK with ⟨y, e, hp⟩ | ⟨-, hp⟩
    · cases e
    · obtain ⟨D1, W1, rfl⟩ := hP _ _ hp
      refine sg_iconst (pc := 12) dL_row_12 (by omega) ?_
      refine st_ireturn (pc := 13) dL_row_13 (Or.inl rfl) ?_
      exact ⟨1, rfl, (D1, rho n1 W1), Or.inl ⟨hp, rfl, rfl⟩⟩
end LHC
