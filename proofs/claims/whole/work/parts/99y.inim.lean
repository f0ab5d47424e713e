/-! ===== the model's constructor: begin, the rows of laws ===== -/
def dG (B G : DD) : DD := fun o j => if 8 ≤ o ∧ o ≤ 15 then G o j else dS B o j
section INM
variable {n1 : Nat} {S T : List (Nat × Nat)} {R : Nat → Int → Nat} {D F : DD} {m : Mem}
theorem step_mna (hR : RI 171 S R) (hD : DI F 171 T D) (e : m = nwA (BM n1 171 R D) 3 40) (hF : ∀ o j, 171 ≤ o → o ≤ 174 → F o j = 0) : ∃ (R' : Nat → Int → Nat) (D' : DD), m = BM n1 175 R' D' ∧ RI 175 S R' ∧ DI F 175 T D' := by
  refine ⟨fun o j => if 171 ≤ o ∧ o ≤ 174 then (if o = 171 ∧ 0 ≤ j ∧ j < 3 then 172 + j.toNat else 0) else R o j, fun o j => if 171 ≤ o ∧ o ≤ 174 then 0 else D o j, ?_, ⟨fun o j ho hp => ?_, fun o j ho => ?_⟩, fun o j ho hp => ?_⟩
  · have eK : (fun o => if o = 171 then 28 else if 171 ≤ o ∧ o ≤ 174 then 22 else Kx 171 o) = Kx 175 := by
      funext o
      unfold Kx
      by_cases c : o = 171 ∨ o = 172 ∨ o = 173 ∨ o = 174
      · rcases c with rfl | rfl | rfl | rfl <;> rfl
      · rw [if_neg (by omega), if_neg (by omega)]
        by_cases z : o < 171
        · rw [if_pos z, if_pos (by omega)]
        · rw [if_neg z, if_neg (by omega)]
    have eN : (fun o => if o = 171 then 3 else if 171 ≤ o ∧ o ≤ 174 then 40 else Nx n1 171 o) = Nx n1 175 := by
      funext o
      unfold Nx
      by_cases c : o = 171 ∨ o = 172 ∨ o = 173 ∨ o = 174
      · rcases c with rfl | rfl | rfl | rfl <;> rfl
      · rw [if_neg (by omega), if_neg (by omega)]
        by_cases z : o < 171
        · rw [if_pos z, if_pos (by omega)]
        · rw [if_neg z, if_neg (by omega)]
    rw [e]
    unfold BM
    rw [← eK, ← eN]
    rfl
  · show (if 171 ≤ o ∧ o ≤ 174 then (if o = 171 ∧ 0 ≤ j ∧ j < 3 then 172 + j.toNat else 0) else R o j) = RF W00 o j
    by_cases c : 171 ≤ o ∧ o ≤ 174
    · rw [if_pos c]
      by_cases z : o = 171 ∧ 0 ≤ j ∧ j < 3
      · rw [if_pos z]
        obtain ⟨rfl, z0, z1⟩ := z
        have q : j = 0 ∨ j = 1 ∨ j = 2 := by omega
        rcases q with rfl | rfl | rfl <;> rfl
      · rw [if_neg z]
        refine (rf_big (fun t ht y => ?_)).symm
        have q : o = 171 ∨ o = 172 ∨ o = 173 ∨ o = 174 := by omega
        rcases q with rfl | rfl | rfl | rfl
        · have y : t ∈ [0, 1, 2] := y
          simp only [List.mem_cons, List.not_mem_nil, or_false] at y
          omega
        · exact absurd y (by show t ∉ ([] : List Nat); exact List.not_mem_nil)
        · exact absurd y (by show t ∉ ([] : List Nat); exact List.not_mem_nil)
        · exact absurd y (by show t ∉ ([] : List Nat); exact List.not_mem_nil)
    · rw [if_neg c]
      exact hR.1 o j (by omega) hp
  · show (if 171 ≤ o ∧ o ≤ 174 then (if o = 171 ∧ 0 ≤ j ∧ j < 3 then 172 + j.toNat else 0) else R o j) = 0
    rw [if_neg (by omega)]
    exact hR.2 o j (by omega)
  · show (if 171 ≤ o ∧ o ≤ 174 then 0 else D o j) = F o j
    by_cases c : 171 ≤ o ∧ o ≤ 174
    · rw [if_pos c, hF o j c.1 c.2]
    · rw [if_neg c]
      exact hD o j (by omega) hp
theorem rc_193 {o : Nat} (h : 193 ≤ o) (j : Int) : RF W00 o j = 0 := by
  have hb : ∀ c : Nat, c ≤ 192 → Nat.ble o c = false := fun c hc => by
    cases e : Nat.ble o c
    · rfl
    · have := Nat.le_of_ble_eq_true e
      omega
  unfold RF
  rw [if_neg (by omega), if_neg (by omega), if_neg (by omega), if_neg (by omega), if_neg (by omega), if_neg (by omega), if_neg (by omega)]
  unfold RC
  simp only [hb, Nat.reduceLeDiff, Bool.cond_false, Bool.cond_self, cond_false]
theorem RI.all (h : RI 193 [] R) : R = RF W00 := by
  funext o j
  by_cases c : o < 193
  · exact h.1 o j c (fun _ _ => List.not_mem_nil)
  · rw [h.2 o j (by omega), rc_193 (by omega)]
/-- all of the model is there; not yet the law's own array -/
def rh1 (n1 : Nat) : Rho := (RF W00, Kx 193, Nx n1 193, 193)
theorem C_begin1 {d : Nat} : Cl d 0 0 mX10_begin [vr 152] (D, rh1 n1) (KV (fun m => ∃ D', m = (D', rh1 n1) ∧ Fr mbF D D' ∧ mst D' = zfresh (mcup D) (mst D))) := by
  refine Cl_of mb_X10_begin (Nat.le_of_ble_eq_true rfl) (sg_X10_begin_0 ⟨rfl, fun m1 e1 => ?_⟩)
  obtain ⟨E, hE⟩ : ∃ E, E = wr D 152 5 0 := ⟨_, rfl⟩
  have e1 : m1 = (E, rh1 n1) := by rw [hE]; exact e1
  subst e1
  have fE : Fr (fun q j => q = 152 ∧ j = 5) D E := by
    rw [hE]
    exact Fr.refl.wr ⟨rfl, rfl⟩
  have a5 : E 152 5 = 0 := by rw [hE, wr_at]
  have a2 : E 152 2 = D 152 2 := fE 152 2 (by omega)
  refine Wp.loop (σ := Int) (fun i => [some (vr 152), some (vi i)])
    (fun i μ => ∃ H : DD, μ = (H, rh1 n1) ∧ Fr (fun q _ => q = 155 ∨ q = 156) E H ∧ 0 ≤ i ∧ i ≤ 40 ∧ ∀ k, 0 ≤ k → k < i → H 155 k = D 152 2 ∧ H 156 k = 0)
    (fun i => (40 - i).toNat) ?_ 0 _ ⟨E, rfl, Fr.refl, by decide, by decide, fun k a b => by omega⟩
  rintro i μ ⟨H, rfl, hH, i0, i1, hc⟩ ih
  refine sg_X10_begin_7 ⟨fun c => ⟨rfl, rfl, bnd (N := 2) rfl (by decide) (by decide), fun m2 e2 => ?_⟩, fun c => ⟨rfl, rfl, bnd (N := 40) rfl i0 (by omega), fun m3 e3 => ?_⟩⟩
  · have e2 : m2 = (wr H 157 0 0, rh1 n1) := e2
    subst e2
    refine ⟨bnd (N := 2) rfl (by decide) (by decide), fun m3 e3 => ?_⟩
    obtain ⟨B, hB⟩ : ∃ B, B = wr (wr H 157 0 0) 157 1 0 := ⟨_, rfl⟩
    have e3 : m3 = (B, rh1 n1) := by rw [hB]; exact e3
    subst e3
    have fB : Fr (fun q _ => q = 157) H B := by
      rw [hB]
      exact (Fr.refl.wr rfl).wr rfl
    have b0 : B 157 0 = 0 := by rw [hB, wr_j (by decide), wr_at]
    have b1 : B 157 1 = 0 := by rw [hB, wr_at]
    have bh : ∀ k, 0 ≤ k → k < 40 → B 155 k = D 152 2 ∧ B 156 k = 0 := fun k a b => by
      rw [fB 155 k (by omega), fB 156 k (by omega)]
      exact hc k a (by omega)
    refine ⟨rfl, B, rfl, ?_, ?_⟩
    · exact ((fE.mono (fun q j z => by unfold mbF; omega)).trans (hH.mono (fun q j z => by unfold mbF; omega))).trans (fB.mono (fun q j z => by unfold mbF; omega))
    · have p5 : B 152 5 = 0 := by rw [fB 152 5 (by omega), hH 152 5 (by omega), a5]
      have p10 : B 152 10 = D 152 10 := by rw [fB 152 10 (by omega), hH 152 10 (by omega), fE 152 10 (by omega)]
      have p155 : B 158 = D 158 := by
        funext j
        rw [fB 158 j (by omega), hH 158 j (by omega), fE 158 j (by omega)]
      have row : ∀ r, r = 0 ∨ r = 1 → mrow B r = zfr (D 152 2) := fun r hr => by
        unfold mrow zfr
        rw [cut_ext (f := fun k => B 155 (20 * r + k)) (g := fun _ => D 152 2) (fun k a b => (bh (20 * r + k) (by omega) (by omega)).1), cut_ext (f := fun k => B 156 (20 * r + k)) (g := fun _ => 0) (fun k a b => (bh (20 * r + k) (by omega) (by omega)).2)]
        rcases hr with z | z
        · rw [z, b0]
        · rw [z, b1]
      unfold mst zfresh
      rw [row 0 (Or.inl rfl), row 1 (Or.inr rfl), p5, p10, p155]
      rfl
  · have e3 : m3 = (wr H 155 i (H 152 2), rh1 n1) := e3
    subst e3
    refine ⟨rfl, bnd (N := 40) rfl i0 (by omega), fun m4 e4 z ez => ?_⟩
    have e4 : m4 = (wr (wr H 155 i (H 152 2)) 156 i 0, rh1 n1) := e4
    subst e4
    rw [w32_id (by omega) (by omega)] at ez
    subst ez
    have h2 : H 152 2 = D 152 2 := by rw [hH 152 2 (by omega), a2]
    refine ih (i + 1) _ ⟨_, rfl, (hH.wr (Or.inl rfl)).wr (Or.inr rfl), by omega, by omega, fun k a b => ?_⟩ (by omega)
    by_cases y : k = i
    · rw [y]
      exact ⟨by rw [wr_o (by decide), wr_at, h2], by rw [wr_at]⟩
    · rw [wr_o (o := 155) (by decide), wr_j y, wr_j y, wr_o (o := 156) (by decide)]
      exact hc k a (by omega)
end INM
