/-! ===== the model's hand, a TICK that is watched ===== -/
/-- the model's LAWS, read, are these codes -/
def MLaw (D : DD) (lw : Int → Option (List Int)) : Prop := ∀ l, if (0 ≤ l ∧ l ≤ 2) ∧ 1 ≤ D 175 l then (D 175 l ≤ 40 ∧ zlFin (D (172 + l.toNat)) (D 175 l) = -1 ∧ lw l = some (zlawr (D (172 + l.toNat)) (D 175 l)).2) else lw l = none
def V12 (W V : Nat → Nat) : Prop := ∀ i, i ≠ 12 → V i = W i
theorem V12.refl {W : Nat → Nat} : V12 W W := fun _ _ => rfl
theorem V12.trans {W V U : Nat → Nat} (h : V12 W V) (g : V12 V U) : V12 W U := fun i hi => (g i hi).trans (h i hi)
theorem V12.u {W : Nat → Nat} {b : Nat} : V12 W (uW W 12 b) := fun i hi => uW_ne hi
def MB (D : DD) : Prop := 2 ≤ D 152 0 ∧ D 152 0 ≤ 20
section MHA
variable {d n1 : Nat} {W : Nat → Nat} {D : DD} {lw : Int → Option (List Int)}
theorem MLaw.fr {D' : DD} {F : Nat → Int → Prop} (h : MLaw D lw) (f : Fr F D D') (n : ∀ q j, 172 ≤ q → q ≤ 175 → ¬ F q j) : MLaw D' lw := by
  intro l
  have := h l
  rw [f 175 l (n _ _ (by decide) (by decide))]
  by_cases c : (0 ≤ l ∧ l ≤ 2) ∧ 1 ≤ D 175 l
  · rw [if_pos c] at this ⊢
    rw [f.obj (o := 172 + l.toNat) (fun j => n _ j (by omega) (by omega))]
    exact this
  · rw [if_neg c] at this ⊢
    exact this
theorem MLaw.none {l : Int} (h : MLaw D lw) (c : ¬ ((0 ≤ l ∧ l ≤ 2) ∧ 1 ≤ D 175 l)) : lw l = none := by
  have := h l
  rwa [if_neg c] at this
theorem MLaw.some {l : Int} (h : MLaw D lw) (c : (0 ≤ l ∧ l ≤ 2) ∧ 1 ≤ D 175 l) : D 175 l ≤ 40 ∧ zlFin (D (172 + l.toNat)) (D 175 l) = -1 ∧ lw l = some (zlawr (D (172 + l.toNat)) (D 175 l)).2 := by
  have := h l
  rwa [if_pos c] at this
theorem MLaw.is {l : Int} (h : MLaw D lw) : (lw l).isSome = true ↔ (0 ≤ l ∧ l ≤ 2) ∧ 1 ≤ D 175 l := by
  by_cases c : (0 ≤ l ∧ l ≤ 2) ∧ 1 ≤ D 175 l
  · rw [(h.some c).2.2]
    exact ⟨fun _ => c, fun _ => rfl⟩
  · rw [h.none c]
    exact ⟨fun z => Bool.noConfusion z, fun z => absurd z c⟩
theorem r32_w {x : Int} (h : r32 x) : w32 x = x := w32_id h.1 (by have := h.2; omega)
theorem C_mbyHand {l push : Int} (hb : MB D) (ht : 0 ≤ D 152 5) (hlate : 0 ≤ D 153 5 ∧ D 153 5 ≤ 20) (hL : MLaw D lw) : Cl (d + 128) 0 0 mX10_byHand [vr 152, vi l, vi push] (D, rho n1 W) (KI (fun r m => r = zgiven (mcup D) (lw l) (mst D) push ∧ ∃ (D' : DD) (V : Nat → Nat), m = (D', rho n1 V) ∧ V12 W V ∧ Fr byF D D')) := by
  refine Cl.pre fun hav hg => ?_
  have rpush : w32 push = push := r32_w (hav (vi push) (by simp))
  have rD : ∀ o j, KT o ≠ 21 → w32 (D o j) = D o j := fun o j h => r32_w ((hg o j).2 h)
  have rS : ∀ j, w32 (D 158 j) = D 158 j := fun j => rD 158 j (by decide)
  have rT : w32 (D 152 5) = D 152 5 := rD 152 5 (by decide)
  have rF' : w32 (D 153 2) = D 153 2 := rD 153 2 (by decide)
  have rH : w32 (D 155 0) = D 155 0 := rD 155 0 (by decide)
  have r5 : D 152 5 < 2147483648 := ((hg 152 5).2 (by show KT 152 ≠ 21; decide)).2
  clear hg hav rD
  have c5 : cSet (mcup D) 5 = D 153 5 := cut_in (n := 7) (k := 5) (f := D 153) (by decide) (by decide)
  have c2 : cSet (mcup D) 2 = D 153 2 := cut_in (n := 7) (k := 2) (f := D 153) (by decide) (by decide)
  have h0 : (sAl (mst D)).1 0 = D 155 0 := cut_in (n := 20) (k := 0) (f := fun k => D 155 (20 * 0 + k)) (by decide) (by decide)
  have goal : ∀ S x m, (x = zlaw (zlawr (D (172 + l.toNat)) (D 175 l)).2 push S (D 152 5) (D 153 2) (D 155 0) ∧ ∃ D', m = (D', rho n1 (uW W 12 (172 + l.toNat))) ∧ Fr byF D D') → ((0 ≤ l ∧ l ≤ 2) ∧ 1 ≤ D 175 l) → S = zseen (mcup D) (mst D) →
      KI (fun r m => r = zgiven (mcup D) (lw l) (mst D) push ∧ ∃ (D' : DD) (V : Nat → Nat), m = (D', rho n1 V) ∧ V12 W V ∧ Fr byF D D') (some (some (vi x))) m := by
    rintro S x m ⟨hx, D', rfl, f⟩ c hS
    refine ⟨_, rfl, ?_, D', _, rfl, V12.u, f⟩
    rw [(hL.some c).2.2]
    show x = zlaw _ push (zseen (mcup D) (mst D)) (D 152 5) (cSet (mcup D) 2) ((sAl (mst D)).1 0)
    rw [c2, h0, ← hS]
    exact hx
  have by' := fun (S : Int) (c : (0 ≤ l ∧ l ≤ 2) ∧ 1 ≤ D 175 l) (hS : w32 S = S) => C_mbyLaw (d := d) (n1 := n1) (W := W) (D := D) (t := D (172 + l.toNat)) (i := l) (P := push) (S := S) (T := D 152 5) (H := D 155 0) c.1 c.2 (hL.some c).1 (fun _ _ _ => rfl) (hL.some c).2.1 ⟨rpush, hS, rT, rF', rH⟩
  refine Cl_of mb_X10_byHand (Nat.le_of_ble_eq_true rfl) (sg_X10_byHand_0 ⟨rfl, cB C_misLaw (fun c => yN ⟨rfl, Or.inl rfl, bnd (N := 7) rfl (by decide) (by decide), fun v1 ev => ?_⟩) (fun c => nN ⟨_, rfl, ?_, D, W, rfl, V12.refl, Fr.refl⟩)⟩)
  · have ev : v1 = D 153 5 := ev
    refine ⟨fun n0 => ⟨fun le => ?_, fun gt => ?_⟩, fun e0 => ?_⟩
    · have le : v1 ≤ D 152 5 := le
      have ei : (w32 (mD (D, rho n1 W) 152 5 - v1)).tmod 21 = (D 152 5 - v1) % 21 := by
        show (w32 (D 152 5 - v1)).tmod 21 = _
        rw [w32_id (by omega) (by omega)]
        exact Int.tmod_eq_emod_of_nonneg (by omega)
      rw [ei]
      refine ⟨Or.inl rfl, bnd (N := 21) rfl (by omega) (by show (D 152 5 - v1) % 21 < 21; omega), fun v2 e2 => ⟨Or.inl rfl, bnd (N := 40) rfl (by decide) (by decide), ?_⟩⟩
      have e2 : v2 = D 158 ((D 152 5 - v1) % 21) := e2
      refine cI (by' v2 c (by rw [e2]; exact rS _)) (fun x m hk => goal v2 x m hk c ?_)
      unfold zseen
      rw [c5, if_neg (by omega), if_pos (show D 153 5 ≤ sTick (mst D) from by show D 153 5 ≤ D 152 5; omega), e2, ev]
      exact (cut_in (n := 21) (f := D 158) (by omega) (by omega)).symm
    · have gt : ¬ v1 ≤ D 152 5 := gt
      refine ⟨Or.inl rfl, bnd (N := 40) rfl (by decide) (by decide), cI (by' 0 c rfl) (fun x m hk => goal 0 x m hk c ?_)⟩
      unfold zseen
      rw [c5, if_neg (by omega), if_neg (show ¬ D 153 5 ≤ sTick (mst D) from by show ¬ D 153 5 ≤ D 152 5; omega)]
    · refine cP (C_mslope hb.1 hb.2) ⟨rfl, Or.inl rfl, bnd (N := 40) rfl (by decide) (by decide), cI (by' _ c (by unfold zslope; exact w32_w32)) (fun x m hk => goal _ x m hk c ?_)⟩
      unfold zseen
      rw [c5, if_pos (by omega)]
  · rw [hL.none c]
    rfl
theorem C_mdraw {x : Int} (hx : x ≠ 0) : Cl d 0 0 mX10_draw [vr 152, vi x] (D, rho n1 W) (KI (fun r m => r = (bUshr (zrand (D 152 10)) 16).tmod x ∧ m = (wr D 152 10 (zrand (D 152 10)), rho n1 W))) := by
  refine Cl_of mb_X10_draw (Nat.le_of_ble_eq_true rfl) (sg_X10_draw_0 ⟨rfl, fun m1 e1 => ⟨hx, ?_⟩⟩)
  have e1 : m1 = (wr D 152 10 (zrand (D 152 10)), rho n1 W) := e1
  subst e1
  refine ⟨_, rfl, ?_, rfl⟩
  show (bUshr (wr D 152 10 (zrand (D 152 10)) 152 10) 16).tmod x = _
  rw [wr_at]
def wtF (q : Nat) (j : Int) : Prop := q = 152 ∧ (j = 40 ∨ j = 41 ∨ j = 42 ∨ j = 44)
theorem C_mwatch : Cl d 0 0 mX10_watch [vr 152] (D, rho n1 W) (KV (fun m => ∃ D', m = (D', rho n1 W) ∧ Fr wtF D D' ∧ D' 152 40 = -1 ∧ D' 152 41 = -1 ∧ D' 152 42 = 0 ∧ D' 152 44 = 0)) := by
  refine Cl_of mb_X10_watch (Nat.le_of_ble_eq_true rfl) (sg_X10_watch_0 ⟨rfl, fun m1 e1 m2 e2 m3 e3 m4 e4 => ?_⟩)
  have e4 : m4 = (wr (wr (wr (wr D 152 40 (-1)) 152 41 (-1)) 152 42 0) 152 44 0, rho n1 W) := by rw [e4, e3, e2, e1]; rfl
  subst e4
  exact ⟨rfl, _, rfl, (((Fr.refl.wr (by unfold wtF; omega)).wr (by unfold wtF; omega)).wr (by unfold wtF; omega)).wr (by unfold wtF; omega), by rw [wr_j (by decide), wr_j (by decide), wr_j (by decide), wr_at], by rw [wr_j (by decide), wr_j (by decide), wr_at], by rw [wr_j (by decide), wr_at], wr_at⟩
/-- the model has watched what z tells (SPILT and SLOPES aside) -/
def Wat (D : DD) (z : Zr) : Prop := mst D = zS z ∧ D 152 40 = zFirst z ∧ D 152 42 = zHigh z ∧ lst (D 176) (D 152 44) = zList z ∧ 0 ≤ D 152 44 ∧ D 152 44 ≤ 1050
def mwtF (q : Nat) (j : Int) : Prop := mpsF q j ∨ wtF q j ∨ q = 176
theorem C_mpassW {pa pc st : Int} {z : Zr} (hb : MB D) (hs : SOK (mst D)) (hz : Wat D z) : Cl (d + 3) 0 0 mX10_passWatched [vr 152, vi pa, vi pc, vi st] (D, rho n1 W) (KI (fun x m => ∃ D', m = (D', rho n1 W) ∧ Fr mwtF D D' ∧ (x, mst D') = ztick (mcup D) pa pc (mst D) ∧ Wat D' (znote 1050 (mcup D) (ztick (mcup D) pa pc (mst D)) z) ∧ D' 152 41 = (if 0 < x ∧ D 152 40 = -1 then st else D 152 41))) := by
  obtain ⟨zs, z40, z42, z173, z0, z1⟩ := hz
  obtain ⟨bb0, bb1⟩ := id hb
  refine Cl_of mb_X10_passWatched (Nat.le_of_ble_eq_true rfl) (sg_X10_passWatched_0 ⟨rfl, cI (C_mpass (D := D) (pa := pa) (pc := pc) hb.1 hb.2 hs) ?_⟩)
  rintro x m ⟨E, rfl, fE, hE⟩
  generalize hZ : ztick (mcup D) pa pc (mst D) = Z at hE ⊢
  subst hE
  have q : ∀ j, j = 40 ∨ j = 41 ∨ j = 42 ∨ j = 44 ∨ j = 0 → E 152 j = D 152 j := fun j hj => fE 152 j (by unfold mpsF; omega)
  have e173 : E 176 = D 176 := fE.obj (fun j => by unfold mpsF; omega)
  have hcl : cLast (mcup D) = D 152 0 - 1 := rfl
  -- the heights of the ends
  have s73 : ∀ H : DD, Fr (fun q j => wtF q j ∨ q = 176) E H → H 152 42 = D 152 42 → H 152 40 = (if 0 < x ∧ D 152 40 = -1 then w32 (E 152 5 - 1) else D 152 40) → H 152 41 = (if 0 < x ∧ D 152 40 = -1 then st else D 152 41) →
      lst (H 176) (H 152 44) = (if 0 < x ∧ (lst (D 176) (D 152 44)).length < 1050 then lst (D 176) (D 152 44) ++ [w32 (E 152 5 - 1)] else lst (D 176) (D 152 44)) → 0 ≤ H 152 44 → H 152 44 ≤ 1050 →
      Wp (d + 3) 0 0 mX10_passWatched 73 [some (vr 152), some (vi pa), some (vi pc), some (vi st), some (vi x), some (vi 0)] [] (H, rho n1 W) (KI (fun x' m => ∃ D', m = (D', rho n1 W) ∧ Fr mwtF D D' ∧ (x', mst D') = (x, mst E) ∧ Wat D' (znote 1050 (mcup D) (x, mst E) z) ∧ D' 152 41 = (if 0 < x' ∧ D 152 40 = -1 then st else D 152 41))) := by
    intro H fH h42 h40 h41 h173 h440 h441
    have g0 : H 152 0 = D 152 0 := by rw [fH 152 0 (by unfold wtF; omega), q 0 (by omega)]
    have g152 : H 155 = E 155 := fH.obj (fun j => by unfold wtF; omega)
    have w1 : ∀ r : Int, r = 0 ∨ r = 1 → w32 (w32 (w32 (20 * r) + D 152 0) - 1) = 20 * r + cLast (mcup D) := fun r hr => by
      obtain ⟨b0, b1⟩ := hb
      rw [w32_id (x := 20 * r) (by omega) (by omega), w32_id (x := 20 * r + D 152 0) (by omega) (by omega), w32_id (by omega) (by omega)]
      omega
    have ends : ∀ r, r = 0 ∨ r = 1 → max (E 155 (20 * r)) (E 155 (20 * r + cLast (mcup D))) = zhigh (mcup D) (mrow E r) := fun r hr => by
      obtain ⟨b0, b1⟩ := hb
      show _ = max (cut 20 (fun k => E 155 (20 * r + k)) 0) (cut 20 (fun k => E 155 (20 * r + k)) (cLast (mcup D)))
      rw [cut_in (by decide) (by decide), cut_in (by omega) (by omega), show 20 * r + 0 = 20 * r by omega]
    refine sg_X10_passWatched_73 ⟨fun c => absurd c (by decide), fun _ => ⟨rfl, Or.inl rfl, bnd (N := 40) rfl (by decide) (by decide), ?_⟩⟩
    rw [show mD (H, rho n1 W) 152 0 = D 152 0 from g0, w1 0 (Or.inl rfl)]
    refine ⟨bnd (N := 40) rfl (by omega) (by obtain ⟨b0, b1⟩ := hb; show 20 * 0 + cLast (mcup D) < 40; omega), cP C_max (cP C_max ⟨rfl, fun m3 e3 v1 ev => ?_⟩)⟩
    rw [show w32 (0 + 1) = 1 from rfl] at ev
    subst ev
    have x0 : max (H 152 42) (max (H 155 (w32 (20 * 0))) (H 155 (20 * 0 + cLast (mcup D)))) = max (D 152 42) (zhigh (mcup D) (sAl (mst E))) := by
      rw [h42, g152, show w32 (20 * 0) = 20 * 0 from rfl, ends 0 (Or.inl rfl)]
      rfl
    obtain ⟨A, hA⟩ : ∃ A, A = wr H 152 42 (max (D 152 42) (zhigh (mcup D) (sAl (mst E)))) := ⟨_, rfl⟩
    have e3 : m3 = (A, rho n1 W) := by
      rw [hA, ← x0]
      exact e3
    subst e3
    have fA : Fr (fun q j => q = 152 ∧ j = 42) H A := by
      rw [hA]
      exact Fr.refl.wr ⟨rfl, rfl⟩
    have a0 : A 152 0 = D 152 0 := by rw [fA 152 0 (by omega), g0]
    have a152 : A 155 = E 155 := by rw [fA.obj (o := 155) (fun j => by omega), g152]
    refine sg_X10_passWatched_73 ⟨fun c => absurd c (by decide), fun _ => ⟨rfl, Or.inl rfl, bnd (N := 40) rfl (by decide) (by decide), ?_⟩⟩
    rw [show mD (A, rho n1 W) 152 0 = D 152 0 from a0, w1 1 (Or.inr rfl)]
    refine ⟨bnd (N := 40) rfl (by obtain ⟨b0, b1⟩ := hb; omega) (by obtain ⟨b0, b1⟩ := hb; show 20 * 1 + cLast (mcup D) < 40; omega), cP C_max (cP C_max ⟨rfl, fun m4 e4 v1 ev => ?_⟩)⟩
    rw [show w32 (1 + 1) = 2 from rfl] at ev
    subst ev
    have a42 : A 152 42 = max (D 152 42) (zhigh (mcup D) (sAl (mst E))) := by rw [hA, wr_at]
    have x1 : max (A 152 42) (max (A 155 (w32 (20 * 1))) (A 155 (20 * 1 + cLast (mcup D)))) = max (D 152 42) (max (zhigh (mcup D) (sAl (mst E))) (zhigh (mcup D) (sAc (mst E)))) := by
      rw [a42, a152, show w32 (20 * 1) = 20 * 1 from rfl, ends 1 (Or.inr rfl)]
      show max (max (D 152 42) (zhigh (mcup D) (sAl (mst E)))) (zhigh (mcup D) (sAc (mst E))) = _
      omega
    obtain ⟨B, hB⟩ : ∃ B, B = wr A 152 42 (max (D 152 42) (max (zhigh (mcup D) (sAl (mst E))) (zhigh (mcup D) (sAc (mst E))))) := ⟨_, rfl⟩
    have e4 : m4 = (B, rho n1 W) := by
      rw [hB, ← x1]
      exact e4
    subst e4
    have fB : Fr (fun q j => q = 152 ∧ j = 42) H B := by
      rw [hB]
      exact fA.wr ⟨rfl, rfl⟩
    have b42 : B 152 42 = max (D 152 42) (max (zhigh (mcup D) (sAl (mst E))) (zhigh (mcup D) (sAc (mst E)))) := by rw [hB, wr_at]
    have sB : mst B = mst E := by rw [mst_fr fB (by omega) (by omega) (fun q j x y => by omega), mst_fr fH (by unfold wtF; omega) (by unfold wtF; omega) (fun q j x y => by unfold wtF; omega)]
    have t5 : E 152 5 = sTick (mst E) := rfl
    refine sg_X10_passWatched_73 ⟨fun _ => ⟨_, rfl, B, rfl, ?_, by rw [sB], ⟨sB, ?_, ?_, ?_, ?_, ?_⟩, ?_⟩, fun c => absurd (by decide) c⟩
    · exact ((fE.mono (fun q j z => (Or.inl z : mwtF q j))).trans (fH.mono (fun q j z => (Or.inr z : mwtF q j)))).trans (fB.mono (fun q j z => Or.inr (Or.inl (by unfold wtF; omega))))
    · rw [fB 152 40 (by omega), h40, z40]
      rfl
    · rw [b42, z42]
      rfl
    · rw [fB.obj (o := 176) (fun j => by omega), fB 152 44 (by omega), h173, z173]
      rfl
    · rw [fB 152 44 (by omega)]; exact h440
    · rw [fB 152 44 (by omega)]; exact h441
    · rw [fB 152 41 (by omega), h41]
  have s36 : ∀ H : DD, Fr wtF E H → 0 < x → H 152 42 = D 152 42 → H 152 40 = (if 0 < x ∧ D 152 40 = -1 then w32 (E 152 5 - 1) else D 152 40) → H 152 41 = (if 0 < x ∧ D 152 40 = -1 then st else D 152 41) → H 152 44 = D 152 44 →
      Wp (d + 3) 0 0 mX10_passWatched 36 [some (vr 152), some (vi pa), some (vi pc), some (vi st), some (vi x), none] [] (H, rho n1 W) (KI (fun x' m => ∃ D', m = (D', rho n1 W) ∧ Fr mwtF D D' ∧ (x', mst D') = (x, mst E) ∧ Wat D' (znote 1050 (mcup D) (x, mst E) z) ∧ D' 152 41 = (if 0 < x' ∧ D 152 40 = -1 then st else D 152 41))) := by
    intro H fH hx h42 h40 h41 h44
    have g173 : H 176 = D 176 := by rw [fH.obj (o := 176) (fun j => by unfold wtF; omega), e173]
    have h5 : H 152 5 = E 152 5 := fH 152 5 (by unfold wtF; omega)
    refine sg_X10_passWatched_36 ⟨rfl, ka rfl, fun c => ?_, fun c m1 e1 => ?_⟩
    · have c : (1050 : Int) ≤ H 152 44 := c
      refine s73 H (fH.mono (fun q j z => Or.inl z)) h42 h40 h41 ?_ (by omega) (by omega)
      rw [g173, h44, lst_len, if_neg (by omega)]
    · have c : ¬ (1050 : Int) ≤ H 152 44 := c
      have wk : w32 (H 152 44 + 1) = H 152 44 + 1 := w32_id (by omega) (by omega)
      have e1 : m1 = (wr H 152 44 (H 152 44 + 1), rho n1 W) := by
        rw [e1, show mD (H, rho n1 W) 152 44 = H 152 44 from rfl, wk]
        rfl
      subst e1
      refine ⟨rfl, bnd (N := 1050) rfl (by show 0 ≤ H 152 44; omega) (by show H 152 44 < 1050; omega), fun m2 e2 => ?_⟩
      have e2 : m2 = (wr (wr H 152 44 (H 152 44 + 1)) 176 (H 152 44) (w32 (E 152 5 - 1)), rho n1 W) := by
        rw [e2]
        show (wr _ 176 (H 152 44) (w32 (wr H 152 44 (H 152 44 + 1) 152 5 - 1)), rho n1 W) = _
        rw [wr_j (by decide), h5]
        rfl
      subst e2
      have f2 : Fr (fun q j => (q = 152 ∧ j = 44) ∨ q = 176) H (wr (wr H 152 44 (H 152 44 + 1)) 176 (H 152 44) (w32 (E 152 5 - 1))) := (Fr.refl.wr (Or.inl ⟨rfl, rfl⟩)).wr (Or.inr rfl)
      have k44 : wr (wr H 152 44 (H 152 44 + 1)) 176 (H 152 44) (w32 (E 152 5 - 1)) 152 44 = D 152 44 + 1 := by rw [wr_o (by decide), wr_at, h44]
      refine s73 _ ((fH.mono (fun q j z => Or.inl z)).trans (f2.mono (fun q j z => by unfold wtF; omega))) (by rw [f2 152 42 (by omega), h42]) (by rw [f2 152 40 (by omega), h40]) (by rw [f2 152 41 (by omega), h41]) ?_ (by rw [k44]; omega) (by rw [k44]; omega)
      rw [k44, wr_A, wr_o (by decide), g173, h44, lst_push z0, lst_len, if_pos ⟨hx, by omega⟩]
  refine ⟨fun c => ?_, fun c => ⟨rfl, fun c2 => ?_, fun c2 m2 e2 m3 e3 => ?_⟩⟩
  · refine s73 E Fr.refl (q 42 (by omega)) ?_ ?_ ?_ (by rw [q 44 (by omega)]; exact z0) (by rw [q 44 (by omega)]; exact z1)
    · rw [q 40 (by omega), if_neg (by omega)]
    · rw [q 41 (by omega), if_neg (by omega)]
    · rw [e173, q 44 (by omega), if_neg (by omega)]
  · have c2 : ¬ E 152 40 = -1 := c2
    rw [q 40 (by omega)] at c2
    refine s36 E Fr.refl (by omega) (q 42 (by omega)) ?_ ?_ (q 44 (by omega))
    · rw [q 40 (by omega), if_neg (fun z => c2 z.2)]
    · rw [q 41 (by omega), if_neg (fun z => c2 z.2)]
  · have c2 : E 152 40 = -1 := c2
    rw [q 40 (by omega)] at c2
    have e3 : m3 = (wr (wr E 152 40 (w32 (E 152 5 - 1))) 152 41 st, rho n1 W) := by rw [e3, e2]; rfl
    subst e3
    refine s36 _ ((Fr.refl.wr (by unfold wtF; omega)).wr (by unfold wtF; omega)) (by omega) ?_ ?_ ?_ ?_
    · rw [wr_j (by decide), wr_j (by decide), q 42 (by omega)]
    · rw [wr_j (by decide), wr_at, if_pos ⟨by omega, c2⟩]
    · rw [wr_at, if_pos ⟨by omega, c2⟩]
    · rw [wr_j (by decide), wr_j (by decide), q 44 (by omega)]
end MHA
