/-! ===== the law from its entry to its loop ===== -/
section LST
variable {n1 : Nat}
/-- the same to the machine -/
theorem Wp.via {d bc bs : Nat} {M : MI} {pc : Nat} {ls : List (Option AV)} {st : List AV} {μ μ' : Mem} {Q : Option (Option AV) → Mem → Prop} (h : ∀ (G : GT) (s : State) (H : Heap) (locs : List Loc), Rp G μ s H locs → Rp G μ' s H locs) (k : Wp d bc bs M pc ls st μ' Q) : Wp d bc bs M pc ls st μ Q :=
  fun p l e R s m args below meth c H locs cells slots Qf G lm hC hR hL ho h1 h2 hq => k p l e R s m args below meth c H locs cells slots Qf G lm hC (h G s H locs hR) hL ho h1 h2 hq
theorem kt_191 {o : Nat} (h : 194 ≤ o) : KT o = 0 ∧ NT n1 o = 0 := by
  have hb : ∀ c : Nat, c ≤ 193 → Nat.ble o c = false := fun c hc => by
    cases e : Nat.ble o c
    · rfl
    · have := Nat.le_of_ble_eq_true e
      omega
  unfold KT NT
  simp only [hb, Nat.reduceLeDiff, Bool.cond_false, Bool.cond_self, cond_false]
  exact ⟨trivial, trivial⟩
theorem Kx_190 : (fun o => if o = 193 then 21 else Kx 193 o) = KT := by
  funext o
  unfold Kx
  by_cases e : o = 193
  · rw [if_pos e, e]
    rfl
  · rw [if_neg e]
    by_cases c : o < 193
    · rw [if_pos c]
    · rw [if_neg c]
      exact (kt_191 (n1 := 0) (by omega)).1.symm
theorem Nx_190 : (fun o => if o = 193 then 1 else Nx n1 193 o) = NT n1 := by
  funext o
  unfold Nx
  by_cases e : o = 193
  · rw [if_pos e, e]
    rfl
  · rw [if_neg e]
    by_cases c : o < 193
    · rw [if_pos c]
    · rw [if_neg c]
      exact (kt_191 (n1 := n1) (by omega)).2.symm
theorem RF_193 : (fun o j => if o = 193 then 0 else RF W00 o j) = RF W00 := by
  funext o j
  by_cases e : o = 193
  · rw [if_pos e, e]
    exact (rc_193 (Nat.le_refl _) j).symm
  · rw [if_neg e]
theorem RI_4 : RI 4 [] (fun _ _ => 0) := by
  refine ⟨fun o j ho _ => ?_, fun _ _ _ => rfl⟩
  refine (rf_big (fun t _ y => ?_)).symm
  have q : o = 0 ∨ o = 1 ∨ o = 2 ∨ o = 3 := by omega
  rcases q with rfl | rfl | rfl | rfl
  · exact absurd y (by show t ∉ ([] : List Nat); exact List.not_mem_nil)
  · exact absurd y (by show t ∉ ([] : List Nat); exact List.not_mem_nil)
  · exact absurd y (by show t ∉ ([] : List Nat); exact List.not_mem_nil)
  · exact absurd y (by show t ∉ ([] : List Nat); exact List.not_mem_nil)
theorem DI_4 {B : DD} : DI (dS B) 4 [] B := fun o j ho _ => (if_pos ho).symm
/-- what the loop starts with -/
def Beg (B D : DD) : Prop := (∀ o j, (o < 8 ∨ 16 ≤ o) → o < 193 → (o ≠ 152 ∨ j ≠ 5) → (o < 155 ∨ 157 < o) → D o j = dS B o j) ∧ stv D 8 = zfresh (cupv D 5) (0, 1, (stv D 8).2.2.1, (stv D 8).2.2.2.1, cut 21 (fun _ => 0)) ∧ mst D = zfresh (mcup D) (0, 1, (mst D).2.2.1, (mst D).2.2.2.1, cut 21 (fun _ => 0))
theorem beg_of {B E G D0 D' : DD} (hE : DI (dS B) 152 [] E) (hG : Fr (fun q _ => 8 ≤ q ∧ q ≤ 15) E G) (sG : stv G 8 = zfresh (cupv E 5) (stv E 8)) (h0 : DI (dG B G) 193 [] D0) (f : Fr mbF D0 D') (sm : mst D' = zfresh (mcup D0) (mst D0)) : Beg B (fun o j => if o = 193 then 0 else D' o j) := by
  have hD' : ∀ o j, o < 193 → (o ≠ 152 ∨ j ≠ 5) → (o < 155 ∨ 157 < o) → D' o j = dG B G o j := fun o j ho h1 h2 => by
    rw [f o j (by unfold mbF; omega)]
    exact h0 o j ho (fun _ _ => List.not_mem_nil)
  have fr : Fr (fun q _ => q = 193) D' (fun o j => if o = 193 then 0 else D' o j) := fun q j z => if_neg z
  have hlow : ∀ o j, (o < 8 ∨ 16 ≤ o) → dG B G o j = dS B o j := fun o j h => if_neg (by omega)
  have hmid : ∀ o, 8 ≤ o → o ≤ 15 → D' o = G o := fun o a b => by
    funext j
    rw [hD' o j (by omega) (by omega) (by omega)]
    exact if_pos ⟨a, b⟩
  have hEa : ∀ o j, o < 152 → E o j = dS B o j := fun o j ho => hE o j ho (fun _ _ => List.not_mem_nil)
  refine ⟨fun o j h1 h2 h3 h4 => ?_, ?_, ?_⟩
  · show (if o = 193 then 0 else D' o j) = _
    rw [if_neg (by omega), hD' o j h2 h3 h4, hlow o j h1]
  · have s1 : stv (fun o j => if o = 193 then 0 else D' o j) 8 = stv G 8 := by
      rw [stv_fr fr (fun q j a b => by omega)]
      unfold stv rowv
      rw [hmid 8 (by decide) (by decide), hmid 9 (by decide) (by decide), hmid 10 (by decide) (by decide), hmid 11 (by decide) (by decide), hmid 12 (by decide) (by decide), hmid 13 (by decide) (by decide), hmid 14 (by decide) (by decide), hmid 15 (by decide) (by decide)]
    have c1 : cupv (fun o j => if o = 193 then 0 else D' o j) 5 = cupv E 5 := by
      rw [cupv_fr fr (fun q j a b => by omega)]
      have e : ∀ o, 5 ≤ o → o ≤ 7 → D' o = E o := fun o a b => by
        funext j
        rw [hD' o j (by omega) (by omega) (by omega), hlow o j (by omega), hEa o j (by omega)]
      unfold cupv
      rw [e 5 (by decide) (by decide), e 6 (by decide) (by decide), e 7 (by decide) (by decide)]
    have sE : zfresh (cupv E 5) (stv E 8) = zfresh (cupv E 5) (0, 1, (stv E 8).2.2.1, (stv E 8).2.2.2.1, cut 21 (fun _ => 0)) := by
      have a1 : E 8 1 = 1 := hEa 8 1 (by decide)
      have a15 : cut 21 (E 15) = cut 21 (fun _ => 0) := by
        have : E 15 = fun _ => 0 := by
          funext j
          rw [hEa 15 j (by decide)]
          exact dv_big (x := 15) (fun t _ y => absurd y (by show t ∉ ([] : List Nat); exact List.not_mem_nil))
        rw [this]
      show ((0 : Int), E 8 1, zfr (cFill (cupv E 5)), zfr (cFill (cupv E 5)), cut 21 (E 15)) = (0, 1, _, _, _)
      rw [a1, a15]
      rfl
    rw [s1, c1, sG, sE]
    rfl
  · have s1 : mst (fun o j => if o = 193 then 0 else D' o j) = mst D' := mst_fr fr (by omega) (by omega) (fun q j a b => by omega)
    have c1 : mcup (fun o j => if o = 193 then 0 else D' o j) = mcup D0 := by
      rw [mcup_fr fr (fun j a b => by omega) (fun q j a b => by omega)]
      exact mcup_fr f (fun j a b => by unfold mbF; omega) (fun q j a b => by unfold mbF; omega)
    have a10 : D0 152 10 = 1 := h0 152 10 (by decide) (fun _ _ => List.not_mem_nil)
    have a155 : cut 21 (D0 158) = cut 21 (fun _ => 0) := by
      have : D0 158 = fun _ => 0 := by
        funext j
        rw [h0 158 j (by decide) (fun _ _ => List.not_mem_nil)]
        exact dv_big (x := 158) (fun t _ y => absurd y (by show t ∉ ([] : List Nat); exact List.not_mem_nil))
      rw [this]
    rw [s1, c1, sm]
    show ((0 : Int), D0 152 10, zfr (cFill (mcup D0)), zfr (cFill (mcup D0)), cut 21 (D0 158)) = (0, 1, zfr (cFill (mcup D0)), zfr (cFill (mcup D0)), cut 21 (fun _ => 0))
    rw [a10, a155]
theorem L_start {B : DD} {bc bs : Nat} (h1 : 1000 ≤ bc) (h2 : 100000 ≤ bs) (k : ∀ D : DD, Beg B D → Wp 221 (bc - 1000) (bs - 100000) mL_law 23 (LSt 0) [] (D, rho n1 W00) LQ) :
    Wp 221 bc bs mL_law 0 [some (vr 1), none, none, none, none, none, none, none] [] (BM n1 4 (fun _ _ => 0) B) LQ := by
  have k10 : clN 10 = 17 := rfl
  have k11 : clN 11 = 66 := rfl
  have hR := RI_4
  have hD := DI_4 (B := B)
  refine sg_L_law_0 (d := 220) (a0 := 1) ⟨of_decide_eq_true rfl, by omega, by show 17 ≤ bs; omega, ?_⟩
  intro m e
  obtain ⟨R1, D1, rfl, hR, hD⟩ := step_nw 10 0 hR hD e rfl rfl (fun _ => rfl) (S' := (plR 4).map (fun t => (4, t))) (T' := []) (List.append_nil _) rfl
  refine ⟨_, _, _, I_4 (d := 217) hR hD, by omega, by show _ ≤ bs - 17; omega, of_decide_eq_true rfl, ?_⟩
  rintro m ⟨R2, E, G, rfl, hR, hE, hG, sG⟩
  refine ⟨of_decide_eq_true rfl, by omega, by show 66 ≤ bs - 17 - _; omega, ?_⟩
  intro m e
  have hG' : DI (dG B G) 152 [] G := fun o j ho hp => by
    show G o j = if 8 ≤ o ∧ o ≤ 15 then G o j else dS B o j
    by_cases c : 8 ≤ o ∧ o ≤ 15
    · rw [if_pos c]
    · rw [if_neg c, hG o j c]
      exact hE o j ho hp
  obtain ⟨R3, D3, rfl, hR, hD⟩ := step_nw 11 0 hR hG' e rfl rfl (fun _ => rfl) (S' := (plR 152).map (fun t => (152, t))) (T' := (plD 152).map (fun t => (152, t))) (List.append_nil _) (List.append_nil _)
  refine ⟨_, _, _, I_152 (d := 219) hR hD, by omega, by show _ ≤ bs - 17 - _ - 66; omega, of_decide_eq_true rfl, ?_⟩
  rintro m ⟨D0, D', rfl, h0, f, sm⟩
  refine ⟨of_decide_eq_true rfl, by decide, by decide, by omega, by omega, ?_⟩
  intro m e
  have e : m = ((fun o j => if o = 193 then 0 else D' o j), (fun o j => if o = 193 then 0 else RF W00 o j), (fun o => if o = 193 then 21 else Kx 193 o), (fun o => if o = 193 then 1 else Nx n1 193 o), 194) := e
  rw [RF_193, Kx_190, Nx_190] at e
  subst e
  refine Wp.via (μ' := ((fun o j => if o = 193 then 0 else D' o j), rho n1 W00)) (fun G s H locs h => ?_) (Wp.room (by omega) (by omega) (k _ (beg_of hE hG sG h0 f sm)))
  obtain ⟨r1, r2, r3, r4, r5, r6⟩ := h
  exact ⟨r1, r2, r3, fun z => absurd rfl z, r5, r6⟩
end LST
