/-! ===== the class's law ===== -/
def zlFin (t : Int → Int) (n : Int) : Int := zfin n (min n 40) (zlawr t (min n 40)).1
def LwA (n1 : Nat) (D : DD) (W : Nat → Nat) (t : Int → Int) (n i r : Int) (m : Mem) : Prop := ∃ (D' : DD) (W' : Nat → Nat), m = (D', rho n1 W') ∧ Fr (fun q j => q = 17 ∨ (W 8 ≤ q ∧ q ≤ W 8 + 1)) D D' ∧ D' 17 1 = 0 ∧
  (¬ (0 ≤ i ∧ i ≤ 2) ∧ r = -100 ∧ W' = W ∨ (0 ≤ i ∧ i ≤ 2) ∧ ¬ zlFin t n = -1 ∧ r = w32 (-1 - zlFin t n) ∧ W' = W ∨
    (0 ≤ i ∧ i ≤ 2) ∧ zlFin t n = -1 ∧ r = 0 ∧ W' = uW (uW W (5 + i.toNat) (W 8)) 8 (W (5 + i.toNat)) ∧ lawv D' (W 8) = (zlawr t (min n 40)).2 ∧ (0 ≤ D' (W 8) 2 ∧ D' (W 8) 2 ≤ 40))
section LWC
variable {d n1 l : Nat} {W : Nat → Nat} {D : DD} {t : Int → Int} {en : Int}
theorem ok_step {f : Ps → Ls} {can : Bool} {dp : Int} {N : Nat} (hl : lawId l) (h40 : en ≤ 40) (hd0 : 0 ≤ dp) (hd4 : dp ≤ 4) (hcan : can = true ↔ ¬ 4 ≤ dp) (hcon : can = true → Lcon en f) (hS : can = true → LOK mX2_readSum n1 l W t en f [vi (dp + 1)] (N + 3)) :
    LOK mX2_readSum n1 l W t en (lsum t en (lprod t en (lthing t en f can))) [vi dp] (N + 6) :=
  C_readSum (N := N + 2) hl h40 (lprod_con (lthing_con hcon)) (C_readProduct (N := N + 1) hl h40 (lthing_con hcon) (C_readThing (N := N) hl h40 hd0 hd4 hcan hcon hS))
theorem ok_0 {N : Nat} (hl : lawId l) (h40 : en ≤ 40) : LOK mX2_readSum n1 l W t en (lS t en 0) [vi 4] (N + 6) := ok_step (can := false) hl h40 (by decide) (by decide) ⟨(fun z => Bool.noConfusion z), (fun z => absurd (by decide) z)⟩ (fun z => Bool.noConfusion z) (fun z => Bool.noConfusion z)
theorem ok_1 {N : Nat} (hl : lawId l) (h40 : en ≤ 40) : LOK mX2_readSum n1 l W t en (lS t en 1) [vi 3] (N + 9) := ok_step (N := N + 3) (can := true) hl h40 (by decide) (by decide) ⟨fun _ => by decide, fun _ => rfl⟩ (fun _ => lS_con) (fun _ => ok_0 (N := N) hl h40)
theorem ok_2 {N : Nat} (hl : lawId l) (h40 : en ≤ 40) : LOK mX2_readSum n1 l W t en (lS t en 2) [vi 2] (N + 12) := ok_step (N := N + 6) (can := true) hl h40 (by decide) (by decide) ⟨fun _ => by decide, fun _ => rfl⟩ (fun _ => lS_con) (fun _ => ok_1 (N := N) hl h40)
theorem ok_3 {N : Nat} (hl : lawId l) (h40 : en ≤ 40) : LOK mX2_readSum n1 l W t en (lS t en 3) [vi 1] (N + 15) := ok_step (N := N + 9) (can := true) hl h40 (by decide) (by decide) ⟨fun _ => by decide, fun _ => rfl⟩ (fun _ => lS_con) (fun _ => ok_2 (N := N) hl h40)
theorem ok_4 {N : Nat} (hl : lawId l) (h40 : en ≤ 40) : LOK mX2_readSum n1 l W t en (lS t en 4) [vi 0] (N + 18) := ok_step (N := N + 12) (can := true) hl h40 (by decide) (by decide) ⟨fun _ => by decide, fun _ => rfl⟩ (fun _ => lS_con) (fun _ => ok_3 (N := N) hl h40)
theorem C_lread (hl : lawId l) (h0 : 0 ≤ D 17 1) (h1 : D 17 1 ≤ 80) (ht : ∀ k, 0 ≤ k → k < D 17 1 → D 18 k = t k) : Cl (d + 19) 0 0 mX2_read [vr l, vr 17] (D, rho n1 W) (KV (fun m => ∃ D', m = (D', rho n1 W) ∧ Fr (fun q j => (q = 17 ∧ (j = 2 ∨ j = 3 ∨ j = 4)) ∨ (l ≤ q ∧ q ≤ l + 1)) D D' ∧ LwR D' l t (min (D 17 1) 40) (zlawr t (min (D 17 1) 40)))) := by
  have sl := (sLaw_of (n1 := n1) (W := W) hl).1
  refine Cl_of mb_X2_read (Nat.le_of_ble_eq_true rfl) (sg_X2_read_0 ⟨sl, fun m1 e1 => ?_⟩)
  have e1 : m1 = (wr D l 2 0, rho n1 W) := e1
  subst e1
  have fw : Fr (fun q j => (q = 17 ∧ (j = 2 ∨ j = 3 ∨ j = 4)) ∨ (l ≤ q ∧ q ≤ l + 1)) D (wr D l 2 0) := Fr.refl.wr (by omega)
  have g17 : ∀ j, wr D l 2 0 17 j = D 17 j := fun j => by rw [wr_o (by unfold lawId at hl; omega)]
  have g18 : ∀ j, wr D l 2 0 18 j = D 18 j := fun j => by rw [wr_o (by unfold lawId at hl; omega)]
  refine ⟨rfl, cI (C_begin (D := wr D l 2 0) (t := t) (by rw [g17]; exact h0) (by rw [g17]; exact h1) (by decide) (by rw [g17]; exact fun k a b => by rw [g18]; exact ht k a b)) ?_⟩
  rintro x m ⟨G, rfl, f2, T2, e2⟩
  rw [g17] at T2 e2
  subst e2
  have F2 := fw.trans (f2.mono (fun q j z => (Or.inl z : (q = 17 ∧ (j = 2 ∨ j = 3 ∨ j = 4)) ∨ (l ≤ q ∧ q ≤ l + 1))))
  have k2 : G l 2 = 0 := by rw [f2 l 2 (by unfold lawId at hl; omega), wr_at]
  have R : LwR G l t (min (D 17 1) 40) ((0, -1), []) := ⟨T2, by omega, fun _ => lst_0 (by omega)⟩
  unfold zlawr
  by_cases hp : 0 < min (D 17 1) 40
  · rw [bi_1 hp, if_pos hp]
    refine yE ⟨sl, cV (ok_4 (N := d) hl (by omega) G (0, -1) [] rfl (by decide) R) ?_⟩
    rintro m ⟨H, rfl, k1, k3⟩
    refine ⟨rfl, H, rfl, F2.trans (k1.mono (fun q j z => ?_)), k3⟩
    rcases z with z | z
    · exact Or.inl ⟨z.1, by have := z.2; omega⟩
    · exact Or.inr z
  · rw [bi_0 hp, if_neg hp]
    exact nE ⟨rfl, G, rfl, F2, R⟩
theorem sR_26 {b : Nat} {j : Int} (h0 : 0 ≤ j) (h1 : j < 3) : sR (D, rho n1 W) 26 j b = (D, rho n1 (uW W (5 + j.toNat) b)) := by
  show (D, (fun o k => if o = 26 ∧ k = j then b else RF W o k), KT, NT n1, 0) = (D, RF (uW W (5 + j.toNat) b), KT, NT n1, 0)
  rw [RF_u26 h0 h1]
theorem sR_4_9 {b : Nat} : sR (D, rho n1 W) 4 9 b = (D, rho n1 (uW W 8 b)) := by
  show (D, (fun o k => if o = 4 ∧ k = 9 then b else RF W o k), KT, NT n1, 0) = (D, RF (uW W 8 b), KT, NT n1, 0)
  rw [RF_u4_9]
theorem C_law {i : Int} (hm : MP D W) (h0 : 0 ≤ D 17 1) (h1 : D 17 1 ≤ 80) (ht : ∀ k, 0 ≤ k → k < D 17 1 → D 18 k = t k) : Cl (d + 20) 0 0 mX9_law [vr 4, vi i] (D, rho n1 W) (KI (LwA n1 D W t (D 17 1) i)) := by
  have hl := hm.2.2.1 8 (by decide) (by decide)
  have sl := (sLaw_of (n1 := n1) (W := W) hl).1
  refine Cl_of mb_X9_law (Nat.le_of_ble_eq_true rfl) (sg_X9_law_0 (cB C_isIn (fun hi => yN ⟨rfl, sl, cV (C_lread (D := D) (l := W 8) hl h0 h1 ht) ?_⟩) (fun hi => nN ⟨rfl, rfl, fun m6 e6 => ?_⟩)))
  rotate_left
  · have e6 : m6 = (wr D 17 1 0, rho n1 W) := e6
    subst e6
    exact ⟨_, rfl, _, W, rfl, Fr.refl.wr (Or.inl rfl), wr_at, Or.inl ⟨hi, rfl, rfl⟩⟩
  rintro m ⟨G, rfl, f1, R1⟩
  refine ⟨rfl, rfl, cI (C_finish (D := G) R1.1) ?_⟩
  rintro x m ⟨H, rfl, f2, k1, k2⟩
  rw [f1 17 1 (by unfold lawId at hl; omega)] at k2
  have k2 : x = zlFin t (D 17 1) := k2
  have F : Fr (fun q j => q = 17 ∨ (W 8 ≤ q ∧ q ≤ W 8 + 1)) D H := (f1.mono (fun q j z => by
    rcases z with z | z
    · exact Or.inl z.1
    · exact Or.inr z)).trans (f2.mono (fun q j z => Or.inl z))
  refine ⟨fun c => ?_, fun c => ⟨_, rfl, H, W, rfl, F, k1, Or.inr (Or.inl ⟨hi, by rw [← k2]; exact c, by rw [k2], rfl⟩)⟩⟩
  have c : zlFin t (D 17 1) = -1 := by rw [← k2]; exact c
  have hv := R1.2.2 (zfin_good c)
  have e2 : H (W 8) 2 = G (W 8) 2 := f2 (W 8) 2 (by unfold lawId at hl; omega)
  have e1 : H (W 8 + 1) = G (W 8 + 1) := by
    funext j
    exact f2 (W 8 + 1) j (by unfold lawId at hl; omega)
  have ei : mR (H, rho n1 W) (mR (H, rho n1 W) 4 8) i = W (5 + i.toNat) := RF_26 hi.1 (by omega)
  refine ⟨rfl, rfl, bnd (N := 3) rfl hi.1 (by omega), bnd (N := 3) rfl hi.1 (by omega), sl, fun m4 e4 => ?_⟩
  have e4 : m4 = (H, rho n1 (uW W (5 + i.toNat) (W 8))) := e4.trans (sR_26 hi.1 (by omega))
  subst e4
  refine ⟨rfl, fun m5 e5 => ?_⟩
  rw [ei] at e5
  have e5 : m5 = (H, rho n1 (uW (uW W (5 + i.toNat) (W 8)) 8 (W (5 + i.toNat)))) := e5.trans sR_4_9
  subst e5
  refine ⟨_, rfl, H, _, rfl, F, k1, Or.inr (Or.inr ⟨hi, c, rfl, rfl, ?_, by rw [e2]; exact R1.2.1⟩)⟩
  unfold lawv
  rw [e1, e2, show min (G (W 8) 2) 40 = G (W 8) 2 by have := R1.2.1; omega]
  exact hv
end LWC
