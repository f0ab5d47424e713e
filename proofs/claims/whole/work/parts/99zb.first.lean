/-! ===== what is kept holds at first ===== -/
section FST
variable {B D : DD}
theorem Beg.at (h : Beg B D) {o : Nat} {j : Int} (h1 : o < 8 ∨ 16 ≤ o) (h2 : o < 193) (h3 : o ≠ 152 ∨ j ≠ 5) (h4 : o < 155 ∨ 157 < o) (h5 : 4 ≤ o) : D o j = dv o j := by
  rw [h.1 o j h1 h2 h3 h4]
  exact if_neg (by omega)
theorem Beg.z (h : Beg B D) {o : Nat} {j : Int} (h1 : o < 8 ∨ 16 ≤ o) (h2 : o < 193) (h3 : o ≠ 152 ∨ j ≠ 5) (h4 : o < 155 ∨ 157 < o) (h5 : 4 ≤ o) (h6 : dv o j = 0) : D o j = 0 := by
  rw [h.at h1 h2 h3 h4 h5, h6]
theorem dl_nil {o : Nat} (h : dl o = []) (j : Int) : dv o j = 0 := by
  unfold dv
  rw [h]
  cases j <;> rfl
theorem cut_00 {f : Int → Int} : cut 0 f = fun _ => 0 := by
  funext k
  exact if_neg (by omega)
theorem Beg.W (w : Nat) (h : Beg B D) (hw : w = 21 ∨ w = 123 ∨ w = 128 ∨ w = 133 ∨ w = 138) : wkv D w = (0, 0, fun _ => 0, fun _ => 0, fun _ => 0, fun _ => 0) := by
  have a4 : D w 4 = 0 := h.z (by omega) (by omega) (by omega) (by omega) (by omega) (dl_nil (by rcases hw with rfl | rfl | rfl | rfl | rfl <;> rfl) 4)
  have a5 : D w 5 = 0 := h.z (by omega) (by omega) (by omega) (by omega) (by omega) (dl_nil (by rcases hw with rfl | rfl | rfl | rfl | rfl <;> rfl) 5)
  unfold wkv
  rw [a4, a5, cut_00, cut_00, cut_00, cut_00]
theorem W00_w : ∀ i, i < 5 → walkId (W00 i) := fun i hi => by
  unfold walkId
  match i, hi with
  | 0, _ => exact Or.inr (Or.inl rfl)
  | 1, _ => exact Or.inr (Or.inr (Or.inl rfl))
  | 2, _ => exact Or.inr (Or.inr (Or.inr (Or.inl rfl)))
  | 3, _ => exact Or.inr (Or.inr (Or.inr (Or.inr rfl)))
  | 4, _ => exact Or.inl rfl
theorem W00_l : ∀ i, 5 ≤ i → i < 9 → lawId (W00 i) := fun i h5 hi => by
  unfold lawId
  match i, h5, hi with
  | 5, _, _ => exact Or.inr (Or.inl rfl)
  | 6, _, _ => exact Or.inr (Or.inr (Or.inl rfl))
  | 7, _, _ => exact Or.inr (Or.inr (Or.inr rfl))
  | 8, _, _ => exact Or.inl rfl
theorem W00_d : ∀ i : Fin 9, ∀ j : Fin 9, W00 i.val = W00 j.val → i = j := by decide +kernel
theorem R0_first (h : Beg B D) (hB2 : ∀ j, 0 ≤ j → j ≤ 6 → B 2 j = zlo j ∧ B 3 j = zhi j) : R0 D W00 0 ∧ RT D := by
  have a := fun {o : Nat} {j : Int} => h.at (o := o) (j := j)
  have c50 : D 5 0 = 7 := a (by omega) (by omega) (by omega) (by omega) (by omega)
  have c51 : D 5 1 = 100 := a (by omega) (by omega) (by omega) (by omega) (by omega)
  have c52 : D 5 2 = 80 := a (by omega) (by omega) (by omega) (by omega) (by omega)
  have s6 : D 6 = dv 6 := by funext j; exact a (by omega) (by omega) (by omega) (by omega) (by omega)
  have s7 : D 7 = dv 7 := by funext j; exact a (by omega) (by omega) (by omega) (by omega) (by omega)
  have s150 : D 153 = dv 153 := by funext j; exact a (by omega) (by omega) (by omega) (by omega) (by omega)
  have s151 : D 154 = dv 154 := by funext j; exact a (by omega) (by omega) (by omega) (by omega) (by omega)
  have m0 : D 152 0 = 8 := a (by omega) (by omega) (by omega) (by omega) (by omega)
  have m1 : D 152 1 = 100 := a (by omega) (by omega) (by omega) (by omega) (by omega)
  have m2 : D 152 2 = 80 := a (by omega) (by omega) (by omega) (by omega) (by omega)
  have z149 : ∀ j : Int, dv 152 j = 0 → j ≠ 5 → D 152 j = 0 := fun j e hj => h.z (by omega) (by omega) (Or.inr hj) (by omega) (by omega) e
  have zz : ∀ (o : Nat) (j : Int), dl o = [] → (o < 8 ∨ 16 ≤ o) → o < 193 → o ≠ 152 → (o < 155 ∨ 157 < o) → 4 ≤ o → D o j = 0 := fun o j e g1 g2 g3 g4 g5 => h.z g1 g2 (Or.inl g3) g4 g5 (dl_nil e j)
  have cu : cupv D 5 = mcup D := by
    unfold cupv mcup
    rw [c50, c51, c52, s6, s7, m0, m1, m2, s150, s151]
    rfl
  have hole : ∀ k, 0 ≤ k → k < 20 → cHole (mcup D) k = 100 := fun k k0 k1 => by
    show cut 20 (D 154) k = 100
    have e : cut 20 (D 154) k = D 154 k := if_pos ⟨k0, k1⟩
    rw [e, s151]
    have q : ∀ t : Fin 20, dv 154 ((t.val : Nat) : Int) = 100 := by decide +kernel
    have q := q ⟨k.toNat, by omega⟩
    dsimp only at q
    rw [show ((k.toNat : Nat) : Int) = k by omega] at q
    exact q
  have st : ∀ k v : Int, 0 ≤ k → k < 7 → dv 153 k = v → cSet (mcup D) k = v := fun k v k0 k1 e => by
    show cut 7 (D 153) k = v
    have e' : cut 7 (D 153) k = D 153 k := if_pos ⟨k0, k1⟩
    rw [e', s150, e]
  have cok : COK (mcup D) := by
    refine ⟨?_, ?_, ?_, ?_, ?_, ?_, ?_, ?_, ?_, ?_, ?_, ?_, ?_, fun j j0 j1 => by rw [hole j j0 j1]; exact ⟨by decide, by decide⟩⟩
    · show 1 ≤ D 152 0 - 1
      omega
    · show D 152 0 - 1 ≤ 19
      omega
    · show 1 ≤ D 152 1
      omega
    · show D 152 1 ≤ 999
      omega
    · show 0 ≤ D 152 2
      omega
    · show D 152 2 ≤ D 152 1
      omega
    · rw [st 0 8 (by decide) (by decide) rfl]; exact ⟨by decide, by decide⟩
    · rw [st 1 2 (by decide) (by decide) rfl]; exact ⟨by decide, by decide⟩
    · rw [st 2 0 (by decide) (by decide) rfl]; exact ⟨by decide, by decide⟩
    · rw [st 3 6 (by decide) (by decide) rfl]; exact ⟨by decide, by decide⟩
    · rw [st 4 0 (by decide) (by decide) rfl]; exact ⟨by decide, by decide⟩
    · rw [st 5 0 (by decide) (by decide) rfl]; exact ⟨by decide, by decide⟩
    · rw [st 6 3 (by decide) (by decide) rfl]; exact ⟨by decide, by decide⟩
  have lowB : ∀ o j, o < 4 → D o j = B o j := fun o j ho => by
    rw [h.1 o j (by omega) (by omega) (by omega) (by omega)]
    exact if_pos ho
  have s8 : stv D 8 = mst D := by
    rw [h.2.1, h.2.2, cu]
    rfl
  have n16 : D 152 16 = 0 := z149 16 rfl (by decide)
  have n43 : D 4 3 = 0 := zz 4 3 rfl (by omega) (by omega) (by omega) (by omega) (by omega)
  have wv : ∀ w, walkId w → wkv D w = (0, 0, fun _ => 0, fun _ => 0, fun _ => 0, fun _ => 0) := fun w hw => h.W w hw
  have wm : ∀ b, wkm D b = (0, 0, fun _ => 0, fun _ => 0, fun _ => 0, fun _ => 0) := fun b => by
    have a1 : D 161 b = 0 := zz 161 b rfl (by omega) (by omega) (by omega) (by omega) (by omega)
    have a2 : D 162 b = 0 := zz 162 b rfl (by omega) (by omega) (by omega) (by omega) (by omega)
    unfold wkm
    rw [a1, a2, cut_00, cut_00, cut_00, cut_00]
  have t0 : D 4 16 = 0 := zz 4 16 rfl (by omega) (by omega) (by omega) (by omega) (by omega)
  have t1 : D 152 14 = 0 := z149 14 rfl (by decide)
  have f0 : D 93 4 = 0 := zz 93 4 rfl (by omega) (by omega) (by omega) (by omega) (by omega)
  have f1 : D 152 59 = 0 := z149 59 rfl (by decide)
  have p0 : D 4 13 = 0 := zz 4 13 rfl (by omega) (by omega) (by omega) (by omega) (by omega)
  have p1 : D 152 57 = 0 := z149 57 rfl (by decide)
  have x0 : D 17 1 = 0 := h.z (by omega) (by omega) (by omega) (by omega) (by omega) rfl
  have x1 : D 152 12 = 0 := z149 12 rfl (by decide)
  refine ⟨⟨⟨⟨by rw [cu]; exact cok, W00_w, W00_l, fun i hi => ?_⟩, ⟨fun i j hi hj e => ?_, fun i j i5 i9 j5 j9 e => ?_⟩, fun j j0 j6 => ?_⟩, ⟨cu, fun k k0 k1 => hole k (by have : D 152 0 - 1 ≤ k := k0; omega) k1⟩, ⟨s8, ?_⟩, ⟨⟨by rw [n16]; decide, by rw [n16]; decide⟩, ⟨by rw [n43]; decide, by rw [n43]; decide⟩, fun i i0 i1 => ?_⟩, fun b b0 b1 => ?_, fun l => ?_, ⟨fun j j0 j1 => ?_, ⟨by rw [p0, p1], by rw [p1]; decide, by rw [p1]; decide, ?_, ?_⟩, ⟨by rw [f0, f1], by rw [f1]; decide, by rw [f1]; decide, ?_, ?_⟩⟩, ⟨⟨by rw [x0, x1], by rw [x1]; decide, by rw [x1]; decide⟩, fun k k0 k1 => by rw [x1] at k1; omega⟩⟩, ?_, by rw [t1]; decide, by rw [t1]; decide⟩
  · have q : D (W00 i) 4 = 0 := congrArg Prod.fst (wv (W00 i) (W00_w i hi))
    rw [q]
    exact ⟨by decide, by decide⟩
  · exact congrArg Fin.val (W00_d ⟨i, by omega⟩ ⟨j, by omega⟩ e)
  · exact congrArg Fin.val (W00_d ⟨i, by omega⟩ ⟨j, by omega⟩ e)
  · rw [lowB 2 j (by decide), lowB 3 j (by decide)]
    exact hB2 j j0 j6
  · rw [h.2.2]
    exact ⟨zfresh_SOK cok, zfresh_BK cok, by show (0 : Int) ≤ _; decide⟩
  · have nk := kbit_0 ⟨i0, i1⟩
    have e1 : D 191 i = 0 := zz 191 i rfl (by omega) (by omega) (by omega) (by omega) (by omega)
    have e2 : D 192 i = 0 := zz 192 i rfl (by omega) (by omega) (by omega) (by omega) (by omega)
    unfold Pd1
    rw [n43, e1, e2, n16]
    exact ⟨⟨fun z => absurd z nk, fun z => absurd rfl z.1⟩, fun z => absurd z nk, by decide, by decide⟩
  · have e : wsv D W00 b = wkm D b := by
      unfold wsv
      rw [wv _ (W00_w b.toNat (by omega)), wm]
    refine ⟨e, ?_⟩
    rw [wm]
    exact ⟨⟨by decide, by decide, by decide⟩, fun i i0 i1 => by have i1 : i < 0 := i1; omega⟩
  · have e : D 175 l = 0 := zz 175 l rfl (by omega) (by omega) (by omega) (by omega) (by omega)
    rw [e, if_neg (by omega)]
    unfold lawsv tlaw
    by_cases g : 0 ≤ l ∧ l ≤ 2
    · have q := W00_l (5 + l.toNat) (by omega) (by omega)
      have q2 : D (W00 (5 + l.toNat)) 2 = 0 := by
        unfold lawId at q
        refine zz _ 2 ?_ (by omega) (by omega) (by omega) (by omega) (by omega)
        rcases q with q | q | q | q <;> rw [q] <;> rfl
      rw [q2, if_neg (by omega)]
      rfl
    · rw [if_neg (fun z => g z.1)]
      rfl
  · have e1 : D 20 j = 0 := zz 20 j rfl (by omega) (by omega) (by omega) (by omega) (by omega)
    have e2 : D 180 j = 0 := zz 180 j rfl (by omega) (by omega) (by omega) (by omega) (by omega)
    rw [e1, e2]
    exact ⟨rfl, by decide, by decide⟩
  · unfold spotsv mspots
    rw [p0, p1]
    rfl
  · unfold mspots
    rw [p1]
    intro y hy
    cases hy
  · unfold filmsv mfilms
    rw [f0, f1]
    rfl
  · unfold mfilms
    rw [f1]
    intro y hy
    cases hy
  · unfold TV MTV toldv mtoldv
    rw [t0, t1]
    rfl
theorem W_law {n1 : Nat} {B : DD} {bc bs : Nat} (hn : n1 ≤ 2560) (hb1 : 2000 ≤ bc) (hb2 : 200000 ≤ bs) (hs : ∀ j, w32 (B 1 j) = B 1 j) (hB2 : ∀ j, 0 ≤ j → j ≤ 6 → B 2 j = zlo j ∧ B 3 j = zhi j) : Wp 221 bc bs mL_law 0 [some (vr 1), none, none, none, none, none, none, none] [] (BM n1 4 (fun _ _ => 0) B) LQ := by
  refine L_start (by omega) (by omega) (fun D hD => ?_)
  obtain ⟨h, t⟩ := R0_first hD hB2
  have e1 : D 1 = B 1 := by
    funext j
    rw [hD.1 1 j (by omega) (by omega) (by omega) (by omega)]
    rfl
  exact L_loop (by omega) hs 512 h t e1 (by decide) (by omega) (by omega) (by decide) (by decide) (by omega) (by omega)
end FST
