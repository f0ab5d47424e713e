/-! ===== the model tells; its steps ===== -/
def mtoldv (D : DD) : List Int := lst (D 160) (D 152 14)
def MTV (D : DD) : List Int × Int := (mtoldv D, D 152 14)
def mtF (q : Nat) (j : Int) : Prop := q = 160 ∨ (q = 152 ∧ j = 14)
def mqF (q : Nat) (j : Int) : Prop := q = 160 ∨ (q = 152 ∧ (j = 14 ∨ j = 15))
/-- an answer, what is told, nothing else -/
def Wm (n1 : Nat) (D : DD) (W : Nat → Nat) (S : Int × Option (List Int)) (r : Int) (m : Mem) : Prop := ∃ D' : DD, m = (D', rho n1 W) ∧ Fr mqF D D' ∧ D' 152 15 = 0 ∧ r = S.1 ∧ MTV D' = tvn S.2 (MTV D)
section MTL
variable {d n1 : Nat} {W : Nat → Nat} {D : DD}
theorem C_mtell {x : Int} (h0 : 0 ≤ D 152 14) (h1 : D 152 14 < 8) : Cl d 0 0 mX10_tell [vr 152, vl x] (D, rho n1 W) (KV (fun m => ∃ D', m = (D', rho n1 W) ∧ Fr mtF D D' ∧ mtoldv D' = mtoldv D ++ [x] ∧ D' 152 14 = D 152 14 + 1)) := by
  refine Cl_of mb_X10_tell (Nat.le_of_ble_eq_true rfl) (sg_X10_tell_0 ⟨rfl, rfl, bnd (N := 8) rfl h0 h1, fun m1 e1 m2 e2 => ?_⟩)
  have w1 : w32 (D 152 14 + 1) = D 152 14 + 1 := w32_id (by omega) (by omega)
  have e2 : m2 = (wr (wr D 160 (D 152 14) x) 152 14 (D 152 14 + 1), rho n1 W) := by
    rw [e2, e1, ← w1]
    rfl
  subst e2
  refine ⟨rfl, _, rfl, (Fr.refl.wr (Or.inl rfl)).wr (Or.inr ⟨rfl, rfl⟩), ?_, wr_at⟩
  unfold mtoldv
  rw [wr_at, wr_o (o := 160) (by decide), wr_A, lst_push h0]
theorem C_msteps {a : Int} (hb : ∀ i, 0 ≤ i → i ≤ 3 → 0 ≤ D 161 i ∧ D 161 i ≤ 1000) : Cl (d + 2) 0 0 mX10_steps [vr 152, vi a] (D, rho n1 W) (KI (Wm n1 D W (S_steps (wkm D) a))) := by
  refine Cl_of mb_X10_steps (Nat.le_of_ble_eq_true rfl) (sg_X10_steps_0 ⟨rfl, fun m1 e1 => ?_⟩)
  obtain ⟨E, hE⟩ : ∃ E, E = wr D 152 15 0 := ⟨_, rfl⟩
  have e1 : m1 = (E, rho n1 W) := by rw [hE]; exact e1
  subst e1
  have fE : Fr (fun q j => q = 152 ∧ j = 15) D E := by
    rw [hE]
    exact Fr.refl.wr ⟨rfl, rfl⟩
  have a15 : E 152 15 = 0 := by rw [hE, wr_at]
  refine cB C_misWalk (fun hi => yN ?_) (fun hi => nN ⟨_, rfl, E, rfl, fE.mono (fun q j z => Or.inr ⟨z.1, Or.inr z.2⟩), a15, ?_, ?_⟩)
  rotate_left
  · unfold S_steps
    rw [if_neg hi]
  · unfold S_steps
    rw [if_neg hi]
    unfold MTV mtoldv
    rw [fE 152 14 (by omega), fE.obj (o := 160) (fun j => by omega)]
    rfl
  obtain ⟨t0, t1⟩ := hb a hi.1 hi.2
  have hS : S_steps (wkm D) a = (D 162 a, some [D 161 a, zsz (cut (D 161 a) (fun k => D 163 (1000 * a + k))) (D 161 a).toNat, zsz (cut (D 161 a) (fun k => D 164 (1000 * a + k))) (D 161 a).toNat]) := if_pos hi
  rw [hS]
  refine Wp.loop (σ := (Int × Int) × Int) (fun z => [some (vr 152), some (vi a), some (vi z.1.1), some (vi z.1.2), some (vi z.2)])
    (fun z μ => μ = (E, rho n1 W) ∧ 0 ≤ z.2 ∧ z.2 ≤ D 161 a ∧ z.1.1 = zsz (cut (D 161 a) (fun k => D 163 (1000 * a + k))) z.2.toNat ∧ z.1.2 = zsz (cut (D 161 a) (fun k => D 164 (1000 * a + k))) z.2.toNat)
    (fun z => (D 161 a - z.2).toNat) ?_ ((0, 0), 0) _ ⟨rfl, by dsimp only; decide, t0, rfl, rfl⟩
  rintro ⟨⟨s1, s2⟩, i⟩ μ ⟨rfl, i0, i1, h1, h2⟩ ih
  dsimp only at i0 i1 h1 h2 ih ⊢
  have e158 : E 161 a = D 161 a := fE 161 a (by omega)
  have wx : w32 (w32 (1000 * a) + i) = 1000 * a + i := by rw [w32_id (x := 1000 * a) (by omega) (by omega), w32_id (by omega) (by omega)]
  refine sg_X10_steps_21 ⟨rfl, Or.inl rfl, bnd (N := 4) rfl hi.1 (by omega), fun c m1 e1 => ?_, fun c => ?_⟩
  · have c : E 161 a ≤ i := c
    have ei : i = D 161 a := by omega
    obtain ⟨B, hB⟩ : ∃ B, B = wr E 152 14 0 := ⟨_, rfl⟩
    have e1 : m1 = (B, rho n1 W) := by rw [hB]; exact e1
    subst e1
    have fB : Fr (fun q j => q = 152 ∧ j = 14) E B := by
      rw [hB]
      exact Fr.refl.wr ⟨rfl, rfl⟩
    have b14 : B 152 14 = 0 := by rw [hB, wr_at]
    have bt : mtoldv B = [] := lst_0 (by omega)
    have b158 : B 161 a = D 161 a := by rw [fB 161 a (by omega), e158]
    refine ⟨bnd (N := 4) rfl hi.1 (by omega), cV (C_mtell (D := B) (x := B 161 a) (by omega) (by omega)) ?_⟩
    rintro m ⟨G1, rfl, g1, p1, q1⟩
    refine ⟨rfl, cV (C_mtell (D := G1) (x := s1) (by omega) (by omega)) ?_⟩
    rintro m ⟨G2, rfl, g2, p2, q2⟩
    refine ⟨rfl, cV (C_mtell (D := G2) (x := s2) (by omega) (by omega)) ?_⟩
    rintro m ⟨G3, rfl, g3, p3, q3⟩
    have fG : Fr mtF E G3 := (((fB.mono (fun q j z => Or.inr z)).trans g1).trans g2).trans g3
    have e159 : G3 162 a = D 162 a := by rw [fG 162 a (by unfold mtF; omega), fE 162 a (by omega)]
    refine ⟨rfl, Or.inl rfl, bnd (N := 4) rfl hi.1 (by omega), _, rfl, G3, rfl, ?_, ?_, e159, ?_⟩
    · exact (fE.mono (fun q j z => (Or.inr ⟨z.1, Or.inr z.2⟩ : mqF q j))).trans (fG.mono (fun q j z => z.elim Or.inl (fun y => Or.inr ⟨y.1, Or.inl y.2⟩)))
    · rw [fG 152 15 (by unfold mtF; omega), a15]
    · unfold MTV
      rw [p3, p2, p1, bt, q3, q2, q1, b14, b158, h1, h2, ei]
      rfl
  · have c : ¬ E 161 a ≤ i := c
    have x1 : E 163 (1000 * a + i) = D 163 (1000 * a + i) := fE 163 _ (by omega)
    have x2 : E 164 (1000 * a + i) = D 164 (1000 * a + i) := fE 164 _ (by omega)
    rw [wx]
    refine ⟨Or.inl rfl, bnd (N := 4000) rfl (by omega) (by show 1000 * a + i < 4000; omega), cP C_absz fun v1 e1 => ⟨rfl, Or.inl rfl, bnd (N := 4000) rfl (by omega) (by show 1000 * a + i < 4000; omega), cP C_absz fun v2 e2 v3 e3 => ?_⟩⟩
    rw [w32_id (by omega) (by omega)] at e3
    subst e3
    have st : ∀ f : Int → Int, zsz (cut (D 161 a) f) (i + 1).toNat = w32 (zsz (cut (D 161 a) f) i.toNat + zabs (f i)) := fun f => by
      rw [show (i + 1).toNat = i.toNat + 1 by omega]
      show w32 (_ + zabs (cut (D 161 a) f ((i.toNat : Nat) : Int))) = _
      rw [show ((i.toNat : Nat) : Int) = i by omega, cut_in i0 (by omega)]
    refine ih ((v1, v2), i + 1) _ ⟨rfl, by dsimp only; omega, by dsimp only; omega, ?_, ?_⟩ (by dsimp only; omega)
    · dsimp only
      rw [st, ← h1, ← x1, e1]
      rfl
    · dsimp only
      rw [st, ← h2, ← x2, e2]
      rfl
end MTL
