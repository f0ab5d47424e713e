/-! ===== the Trial ===== -/
def lawId (l : Nat) : Prop := l = 27 ∨ l = 143 ∨ l = 146 ∨ l = 149
def walkId (w : Nat) : Prop := w = 21 ∨ w = 123 ∨ w = 128 ∨ w = 133 ∨ w = 138
section SHP
variable {n1 : Nat} {W : Nat → Nat}
theorem sLaw_of {l : Nat} (h : lawId l) : SLaw (rho n1 W) l := by
  rcases h with h | h | h | h <;> subst h <;> exact ⟨rfl, rfl, rfl, rfl, rfl, rfl, rfl⟩
theorem sWk_of {w : Nat} (h : walkId w) : SWk (rho n1 W) w := by
  rcases h with h | h | h | h | h <;> subst h <;> exact ⟨rfl, ⟨rfl, rfl, rfl, rfl⟩, ⟨rfl, rfl, rfl, rfl⟩, rfl, rfl, rfl, rfl⟩
def cupId (c : Nat) : Prop := c = 5 ∨ c = 31
theorem sCup_of {c : Nat} (h : cupId c) : SCup (rho n1 W) c := by
  rcases h with h | h <;> subst h <;> exact ⟨rfl, rfl, rfl, rfl, rfl, rfl, rfl⟩
def stId (o : Nat) : Prop := o = 8 ∨ o = 34 ∨ o = 52 ∨ o = 60 ∨ o = 68 ∨ o = 76 ∨ o = 84 ∨ o = 99 ∨ o = 107 ∨ o = 115
theorem sSt_of {o : Nat} (h : stId o) : SSt (rho n1 W) o := by
  rcases h with h | h | h | h | h | h | h | h | h | h <;> subst h <;> exact ⟨rfl, rfl, rfl, rfl, ⟨rfl, rfl, rfl, rfl, rfl, rfl, rfl⟩, ⟨rfl, rfl, rfl, rfl, rfl, rfl, rfl⟩, rfl, rfl⟩
theorem cup31 : SCup (rho n1 W) 31 := sCup_of (Or.inr rfl)
theorem cup5 : SCup (rho n1 W) 5 := sCup_of (Or.inl rfl)
theorem st34 : SSt (rho n1 W) 34 := sSt_of (Or.inr (Or.inl rfl))
theorem st8 : SSt (rho n1 W) 8 := sSt_of (Or.inl rfl)
theorem row35 : SRow (rho n1 W) 35 := st34.2.2.2.2.1
theorem row38 : SRow (rho n1 W) 38 := st34.2.2.2.2.2.1
end SHP
def trv (D : DD) : Zr := (stv D 34, D 30 4, D 30 5, D 30 6, D 30 7, lst (D 42) (D 30 9))
/-- what a run of the Trial changes -/
def rF (q : Nat) (_ : Int) : Prop := q = 30 ∨ (34 ≤ q ∧ q ≤ 42) ∨ q = 29 ∨ q = 145 ∨ q = 148 ∨ q = 151
theorem znote_out {cap : Nat} {c : Cv} {x : Int × Sv} {z z' : Zr} (h : zout z = zout z') : znote cap c x z = znote cap c x z' := by
  have e1 : zSum z = zSum z' := congrArg Prod.fst h
  have e2 : zFirst z = zFirst z' := congrArg (fun q => q.2.1) h
  have e3 : zHigh z = zHigh z' := congrArg (fun q => q.2.2.1) h
  have e4 : zGsl z = zGsl z' := congrArg (fun q => q.2.2.2.1) h
  have e5 : zList z = zList z' := congrArg (fun q => q.2.2.2.2) h
  unfold znote
  rw [e1, e2, e3, e4, e5]
theorem zcarry_tick {c : Cv} {L : Option (List Int)} {w : Wv} {i t : Int} {s : Sv} : sTick (zcarry c L w i t s).2 = w32 (sTick s + 1) := by
  unfold zcarry
  split
  · show w32 (sTick (zwans _ _) + 1) = _
    rw [zwans_tick]
  · show w32 (sTick (zwans _ _) + 1) = _
    rw [zwans_tick]
section TR
variable {d n1 : Nat} {W : Nat → Nat} {D : DD}
/-- what note changes -/
def nF (q : Nat) (j : Int) : Prop := (q = 30 ∧ (j = 4 ∨ j = 5 ∨ j = 6 ∨ j = 7 ∨ j = 9)) ∨ q = 42
theorem C_tnote {x : Int} (l0 : 1 ≤ D 31 0) (l1 : D 31 0 ≤ 19) (k0 : 0 ≤ D 30 9) (k1 : D 30 9 ≤ 1040) :
    Cl (d + 2) 0 0 mX7_note [vr 30, vi x] (D, rho n1 W) (KV (fun m => ∃ D', m = (D', rho n1 W) ∧ Fr nF D D' ∧ 0 ≤ D' 30 9 ∧ D' 30 9 ≤ 1040 ∧ trv D' = znote 1040 (cupv D 31) (x, stv D 34) (trv D))) := by
  have f79 : ∀ E : DD, Fr nF D E → E 30 6 = D 30 6 → E 30 7 = D 30 7 → 0 ≤ E 30 9 → E 30 9 ≤ 1040 → E 30 4 = w32 (D 30 4 + x) → E 30 5 = (if 0 < x ∧ D 30 5 = -1 then w32 (D 34 0 - 1) else D 30 5) →
      lst (E 42) (E 30 9) = (if 0 < x ∧ (lst (D 42) (D 30 9)).length < 1040 then lst (D 42) (D 30 9) ++ [w32 (D 34 0 - 1)] else lst (D 42) (D 30 9)) →
      Wp (d + 2) 0 0 mX7_note 79 [some (vr 30), some (vi x), none] [] (E, rho n1 W) (KV (fun m => ∃ D', m = (D', rho n1 W) ∧ Fr nF D D' ∧ 0 ≤ D' 30 9 ∧ D' 30 9 ≤ 1040 ∧ trv D' = znote 1040 (cupv D 31) (x, stv D 34) (trv D))) := by
    intro E hE e6 e7 e90 e91 e4 e5 e9
    have eL : E 31 0 = D 31 0 := hE 31 0 (by unfold nF; omega)
    refine sg_X7_note_79 ⟨rfl, rfl, rfl, cP (C_higherEnd (a := 35) (c := 31) (D := E) row35 cup31 (by omega) (by omega)) ⟨rfl, rfl, rfl, cP (C_higherEnd (a := 38) (c := 31) (D := E) row38 cup31 (by omega) (by omega)) (cP C_max ⟨rfl, cP C_max ⟨rfl, fun m5 e5' => ?_⟩⟩)⟩⟩
    obtain ⟨E5, q5, h5, v5⟩ : ∃ E5 : DD, m5 = (E5, rho n1 W) ∧ Fr (fun q j => q = 30 ∧ j = 6) E E5 ∧ E5 30 6 = max (E 30 6) (max (zhigh (cupv E 31) (rowv E 35)) (zhigh (cupv E 31) (rowv E 38))) := ⟨_, e5', Fr.refl.wr ⟨rfl, rfl⟩, wr_at⟩
    subst q5
    have eL5 : E5 31 0 = E 31 0 := h5 31 0 (by omega)
    refine ⟨rfl, rfl, cP (C_slope (a := 35) (c := 31) (D := E5) row35 cup31 (by omega) (by omega)) (cP C_absz (cP C_max ⟨rfl, fun m9 e9' => ⟨rfl, wr E5 30 7 (max (E5 30 7) (zabs (zslope (cupv E5 31) (rowv E5 35)))), e9', ?_, ?_, ?_, ?_⟩⟩))⟩
    · exact (hE.trans (h5.mono (fun q j h => by unfold nF; omega))).wr (by unfold nF; omega)
    · rw [wr_j (by decide), h5 30 9 (by omega)]
      exact e90
    · rw [wr_j (by decide), h5 30 9 (by omega)]
      exact e91
    · have hw : Fr (fun q _ => q = 30) E5 (wr E5 30 7 (max (E5 30 7) (zabs (zslope (cupv E5 31) (rowv E5 35))))) := Fr.refl.wr rfl
      have z1 : stv (wr E5 30 7 (max (E5 30 7) (zabs (zslope (cupv E5 31) (rowv E5 35))))) 34 = stv D 34 := by
        rw [stv_fr hw (fun q j a b => by omega), stv_fr h5 (fun q j a b => by omega), stv_fr hE (fun q j a b => by unfold nF; omega)]
      have c5 : cupv E5 31 = cupv D 31 := by rw [cupv_fr h5 (fun q j a b => by omega), cupv_fr hE (fun q j a b => by unfold nF; omega)]
      have cE : cupv E 31 = cupv D 31 := cupv_fr hE (fun q j a b => by unfold nF; omega)
      have r5 : rowv E5 35 = rowv D 35 := by rw [rowv_fr h5 (fun q j a b => by omega), rowv_fr hE (fun q j a b => by unfold nF; omega)]
      have rE : rowv E 35 = rowv D 35 := rowv_fr hE (fun q j a b => by unfold nF; omega)
      have rE2 : rowv E 38 = rowv D 38 := rowv_fr hE (fun q j a b => by unfold nF; omega)
      unfold trv znote
      rw [z1, wr_at, wr_j (by decide), wr_j (by decide), wr_j (by decide), wr_j (by decide), wr_o (by decide), v5, h5 30 4 (by omega), h5 30 5 (by omega), h5 30 7 (by omega), h5 30 9 (by omega), h5.obj (o := 42) (fun j => by omega), e4, e5, e6, e7, e9, c5, r5, cE, rE, rE2]
      rfl
  have f35 : ∀ E : DD, Fr nF D E → E 30 6 = D 30 6 → E 30 7 = D 30 7 → E 30 9 = D 30 9 → E 42 = D 42 → E 30 4 = w32 (D 30 4 + x) → E 30 5 = (if 0 < x ∧ D 30 5 = -1 then w32 (D 34 0 - 1) else D 30 5) →
      Wp (d + 2) 0 0 mX7_note 35 [some (vr 30), some (vi x), none] [] (E, rho n1 W) (KV (fun m => ∃ D', m = (D', rho n1 W) ∧ Fr nF D D' ∧ 0 ≤ D' 30 9 ∧ D' 30 9 ≤ 1040 ∧ trv D' = znote 1040 (cupv D 31) (x, stv D 34) (trv D))) := by
    intro E hE e6 e7 e9 e42 e4 e5
    have t0 : E 34 0 = D 34 0 := hE 34 0 (by unfold nF; omega)
    refine sg_X7_note_35 ⟨fun c => f79 E hE e6 e7 (by omega) (by omega) e4 e5 ?_, fun c => ⟨rfl, ka rfl, fun c2 => f79 E hE e6 e7 (by omega) (by omega) e4 e5 ?_, fun c2 => ⟨rfl, rfl, ⟨by show 0 ≤ E 30 9; omega, Int.not_le.mp c2⟩, fun m1 e1 m2 e2 => ?_⟩⟩⟩
    · rw [if_neg (by omega), e42, e9]
    · have c2 : ((1040 : Nat) : Int) ≤ E 30 9 := c2
      rw [lst_len, if_neg (by omega), e42, e9]
    · have c2 : ¬ ((1040 : Nat) : Int) ≤ E 30 9 := c2
      have em : m2 = (wr (wr E 42 (E 30 9) (w32 (E 34 0 - 1))) 30 9 (w32 (E 30 9 + 1)), rho n1 W) := by rw [e2, e1]; rfl
      subst em
      refine f79 _ ((hE.wr (by unfold nF; omega)).wr (by unfold nF; omega)) ?_ ?_ ?_ ?_ ?_ ?_ ?_
      · rw [wr_j (by decide), wr_o (by decide), e6]
      · rw [wr_j (by decide), wr_o (by decide), e7]
      · rw [wr_at, w32_id (by omega) (by omega)]; omega
      · rw [wr_at, w32_id (by omega) (by omega)]; omega
      · rw [wr_j (by decide), wr_o (by decide), e4]
      · rw [wr_j (by decide), wr_o (by decide), e5]
      · rw [wr_at, wr_o (by decide), wr_A, w32_id (x := E 30 9 + 1) (by omega) (by omega), lst_push (by omega), lst_len, if_pos (by omega), e42, e9, t0]
  refine Cl_of mb_X7_note (by show 2 ≤ 3; decide) (sg_X7_note_0 ⟨rfl, fun m1 e1 => ⟨fun c => ?_, fun c => ⟨fun c2 => ?_, fun c2 => ⟨by rw [e1]; rfl, fun m2 e2 => ?_⟩⟩⟩⟩)
  · subst e1
    refine f35 (wr D 30 4 (w32 (D 30 4 + x))) (Fr.refl.wr (by unfold nF; omega)) (wr_j (by decide)) (wr_j (by decide)) (wr_j (by decide)) (wr_o (by decide)) wr_at ?_
    rw [if_neg (by omega), wr_j (by decide)]
  · subst e1
    have c2 : ¬ D 30 5 = -1 := c2
    refine f35 (wr D 30 4 (w32 (D 30 4 + x))) (Fr.refl.wr (by unfold nF; omega)) (wr_j (by decide)) (wr_j (by decide)) (wr_j (by decide)) (wr_o (by decide)) wr_at ?_
    rw [if_neg (by omega), wr_j (by decide)]
  · subst e1
    have c2 : D 30 5 = -1 := c2
    subst e2
    refine f35 (wr (wr D 30 4 (w32 (D 30 4 + x))) 30 5 (w32 (D 34 0 - 1))) ((Fr.refl.wr (by unfold nF; omega)).wr (by unfold nF; omega)) ?_ ?_ ?_ ?_ ?_ ?_
    · rw [wr_j (by decide), wr_j (by decide)]
    · rw [wr_j (by decide), wr_j (by decide)]
    · rw [wr_j (by decide), wr_j (by decide)]
    · rw [wr_o (by decide), wr_o (by decide)]
    · rw [wr_j (by decide), wr_at]
    · rw [wr_at, if_pos ⟨by omega, c2⟩]
end TR
