/-! ===== one call of the law to both, by program ===== -/
section GCA
variable {n1 : Nat} {D : DD} {W : Nat → Nat} {N i : Int} {bc bs : Nat}
def LQ : Option (Option AV) → Mem → Prop := KI (fun x _ => x = 1)
def IX (n1 : Nat) (i : Int) : Prop := ∀ k, 1 ≤ k → k ≤ 4 → 0 ≤ w32 (i + k) ∧ w32 (i + k) < (n1 : Int)
abbrev LSt (i : Int) : List (Option AV) := [some (vr 1), some (vr 4), some (vr 152), some (vr 193), some (vi i), none, none, none]
def Kt (n1 bc bs : Nat) (D : DD) (N i : Int) : Prop := ∀ (D2 : DD) (W2 : Nat → Nat), D2 1 = D 1 → R0 D2 W2 (N + 1) → RT D2 → Wp 221 (bc - 1) (bs - 6) mL_law 1933 (LSt i) [] (D2, rho n1 W2) LQ
theorem G_248 (i1 : IX n1 i) (hB : Both n1 D W N mX9_cup mX10_cup [vi (D 1 (w32 (i + 1))), vi (D 1 (w32 (i + 2))), vi (D 1 (w32 (i + 3)))]) (k : Kt n1 bc bs D N i) : Wp 221 bc bs mL_law 248 (LSt i) [] (D, rho n1 W) LQ := by
  obtain ⟨K1, c1, k1⟩ := hB
  refine sg_L_law_248 (d := 220) (a0 := 1) (a1 := 4) (a2 := 152) (a3 := 193) (a4 := i) ⟨Or.inr ⟨by decide, rfl⟩, i1 1 (by decide) (by decide), i1 2 (by decide) (by decide), i1 3 (by decide) (by decide), rfl, cI c1 (fun x1 m1 h1 => ?_)⟩
  obtain ⟨D1, W1, rfl, e1, K2, c2, k2⟩ := k1 x1 m1 h1
  rw [← e1] at c2
  refine ⟨Or.inr ⟨by decide, rfl⟩, i1 1 (by decide) (by decide), i1 2 (by decide) (by decide), i1 3 (by decide) (by decide), rfl, cI c2 (fun x2 m2 h2 => ?_)⟩
  obtain ⟨ex, D2, W2, rfl, e2, r2, t2⟩ := k2 x2 m2 h2
  exact ⟨fun _ => Wp.room (Nat.sub_le _ _) (Nat.sub_le _ _) (k D2 W2 e2 r2 t2), fun z => absurd ex z⟩
theorem G_297 (i1 : IX n1 i) (hB : Both n1 D W N mX9_set mX10_set [vi (D 1 (w32 (i + 1))), vi (D 1 (w32 (i + 2)))]) (k : Kt n1 bc bs D N i) : Wp 221 bc bs mL_law 297 (LSt i) [] (D, rho n1 W) LQ := by
  obtain ⟨K1, c1, k1⟩ := hB
  refine sg_L_law_297 (d := 220) (a0 := 1) (a1 := 4) (a2 := 152) (a3 := 193) (a4 := i) ⟨Or.inr ⟨by decide, rfl⟩, i1 1 (by decide) (by decide), i1 2 (by decide) (by decide), rfl, cI c1 (fun x1 m1 h1 => ?_)⟩
  obtain ⟨D1, W1, rfl, e1, K2, c2, k2⟩ := k1 x1 m1 h1
  rw [← e1] at c2
  refine ⟨Or.inr ⟨by decide, rfl⟩, i1 1 (by decide) (by decide), i1 2 (by decide) (by decide), rfl, cI c2 (fun x2 m2 h2 => ?_)⟩
  obtain ⟨ex, D2, W2, rfl, e2, r2, t2⟩ := k2 x2 m2 h2
  exact ⟨fun _ => Wp.room (Nat.sub_le _ _) (Nat.sub_le _ _) (k D2 W2 e2 r2 t2), fun z => absurd ex z⟩
theorem G_334 (i1 : IX n1 i) (hB : Both n1 D W N mX9_wall mX10_wall [vi (D 1 (w32 (i + 1))), vi (D 1 (w32 (i + 2)))]) (k : Kt n1 bc bs D N i) : Wp 221 bc bs mL_law 334 (LSt i) [] (D, rho n1 W) LQ := by
  obtain ⟨K1, c1, k1⟩ := hB
  refine sg_L_law_334 (d := 220) (a0 := 1) (a1 := 4) (a2 := 152) (a3 := 193) (a4 := i) ⟨Or.inr ⟨by decide, rfl⟩, i1 1 (by decide) (by decide), i1 2 (by decide) (by decide), rfl, cI c1 (fun x1 m1 h1 => ?_)⟩
  obtain ⟨D1, W1, rfl, e1, K2, c2, k2⟩ := k1 x1 m1 h1
  rw [← e1] at c2
  refine ⟨Or.inr ⟨by decide, rfl⟩, i1 1 (by decide) (by decide), i1 2 (by decide) (by decide), rfl, cI c2 (fun x2 m2 h2 => ?_)⟩
  obtain ⟨ex, D2, W2, rfl, e2, r2, t2⟩ := k2 x2 m2 h2
  exact ⟨fun _ => Wp.room (Nat.sub_le _ _) (Nat.sub_le _ _) (k D2 W2 e2 r2 t2), fun z => absurd ex z⟩
theorem G_371 (i1 : IX n1 i) (hB : Both n1 D W N mX9_sheet mX10_sheet [vi (D 1 (w32 (i + 1))), vi (D 1 (w32 (i + 2))), vi (D 1 (w32 (i + 3))), vi (D 1 (w32 (i + 4)))]) (k : Kt n1 bc bs D N i) : Wp 221 bc bs mL_law 371 (LSt i) [] (D, rho n1 W) LQ := by
  obtain ⟨K1, c1, k1⟩ := hB
  refine sg_L_law_371 (d := 220) (a0 := 1) (a1 := 4) (a2 := 152) (a3 := 193) (a4 := i) ⟨Or.inr ⟨by decide, rfl⟩, i1 1 (by decide) (by decide), i1 2 (by decide) (by decide), i1 3 (by decide) (by decide), i1 4 (by decide) (by decide), rfl, cI c1 (fun x1 m1 h1 => ?_)⟩
  obtain ⟨D1, W1, rfl, e1, K2, c2, k2⟩ := k1 x1 m1 h1
  rw [← e1] at c2
  refine ⟨Or.inr ⟨by decide, rfl⟩, i1 1 (by decide) (by decide), i1 2 (by decide) (by decide), i1 3 (by decide) (by decide), i1 4 (by decide) (by decide), rfl, cI c2 (fun x2 m2 h2 => ?_)⟩
  obtain ⟨ex, D2, W2, rfl, e2, r2, t2⟩ := k2 x2 m2 h2
  exact ⟨fun _ => Wp.room (Nat.sub_le _ _) (Nat.sub_le _ _) (k D2 W2 e2 r2 t2), fun z => absurd ex z⟩
theorem G_432 (i1 : IX n1 i) (hB : Both n1 D W N mX9_fresh mX10_fresh []) (k : Kt n1 bc bs D N i) : Wp 221 bc bs mL_law 432 (LSt i) [] (D, rho n1 W) LQ := by
  obtain ⟨K1, c1, k1⟩ := hB
  refine sg_L_law_432 (d := 220) (a0 := 1) (a1 := 4) (a2 := 152) (a3 := 193) (a4 := i) ⟨rfl, cI c1 (fun x1 m1 h1 => ?_)⟩
  obtain ⟨D1, W1, rfl, e1, K2, c2, k2⟩ := k1 x1 m1 h1
  refine ⟨rfl, cI c2 (fun x2 m2 h2 => ?_)⟩
  obtain ⟨ex, D2, W2, rfl, e2, r2, t2⟩ := k2 x2 m2 h2
  exact ⟨fun _ => Wp.room (Nat.sub_le _ _) (Nat.sub_le _ _) (k D2 W2 e2 r2 t2), fun z => absurd ex z⟩
theorem G_445 (i1 : IX n1 i) (hB : Both n1 D W N mX9_tilt mX10_tilt [vi (D 1 (w32 (i + 1))), vi (D 1 (w32 (i + 2)))]) (k : Kt n1 bc bs D N i) : Wp 221 bc bs mL_law 445 (LSt i) [] (D, rho n1 W) LQ := by
  obtain ⟨K1, c1, k1⟩ := hB
  refine sg_L_law_445 (d := 220) (a0 := 1) (a1 := 4) (a2 := 152) (a3 := 193) (a4 := i) ⟨Or.inr ⟨by decide, rfl⟩, i1 1 (by decide) (by decide), i1 2 (by decide) (by decide), rfl, cI c1 (fun x1 m1 h1 => ?_)⟩
  obtain ⟨D1, W1, rfl, e1, K2, c2, k2⟩ := k1 x1 m1 h1
  rw [← e1] at c2
  refine ⟨Or.inr ⟨by decide, rfl⟩, i1 1 (by decide) (by decide), i1 2 (by decide) (by decide), rfl, cI c2 (fun x2 m2 h2 => ?_)⟩
  obtain ⟨ex, D2, W2, rfl, e2, r2, t2⟩ := k2 x2 m2 h2
  exact ⟨fun _ => Wp.room (Nat.sub_le _ _) (Nat.sub_le _ _) (k D2 W2 e2 r2 t2), fun z => absurd ex z⟩
theorem G_482 (i1 : IX n1 i) (hB : Both n1 D W N mX9_tick mX10_tick [vi (D 1 (w32 (i + 1))), vi (D 1 (w32 (i + 2)))]) (k : Kt n1 bc bs D N i) : Wp 221 bc bs mL_law 482 (LSt i) [] (D, rho n1 W) LQ := by
  obtain ⟨K1, c1, k1⟩ := hB
  refine sg_L_law_482 (d := 220) (a0 := 1) (a1 := 4) (a2 := 152) (a3 := 193) (a4 := i) ⟨Or.inr ⟨by decide, rfl⟩, i1 1 (by decide) (by decide), i1 2 (by decide) (by decide), rfl, cI c1 (fun x1 m1 h1 => ?_)⟩
  obtain ⟨D1, W1, rfl, e1, K2, c2, k2⟩ := k1 x1 m1 h1
  rw [← e1] at c2
  refine ⟨Or.inr ⟨by decide, rfl⟩, i1 1 (by decide) (by decide), i1 2 (by decide) (by decide), rfl, cI c2 (fun x2 m2 h2 => ?_)⟩
  obtain ⟨ex, D2, W2, rfl, e2, r2, t2⟩ := k2 x2 m2 h2
  exact ⟨fun _ => Wp.room (Nat.sub_le _ _) (Nat.sub_le _ _) (k D2 W2 e2 r2 t2), fun z => absurd ex z⟩
theorem G_667 (i1 : IX n1 i) (hB : Both n1 D W N mX9_sign mX10_sign [vi (D 1 (w32 (i + 1)))]) (k : Kt n1 bc bs D N i) : Wp 221 bc bs mL_law 667 (LSt i) [] (D, rho n1 W) LQ := by
  obtain ⟨K1, c1, k1⟩ := hB
  refine sg_L_law_667 (d := 220) (a0 := 1) (a1 := 4) (a2 := 152) (a3 := 193) (a4 := i) ⟨Or.inr ⟨by decide, rfl⟩, i1 1 (by decide) (by decide), rfl, cI c1 (fun x1 m1 h1 => ?_)⟩
  obtain ⟨D1, W1, rfl, e1, K2, c2, k2⟩ := k1 x1 m1 h1
  rw [← e1] at c2
  refine ⟨Or.inr ⟨by decide, rfl⟩, i1 1 (by decide) (by decide), rfl, cI c2 (fun x2 m2 h2 => ?_)⟩
  obtain ⟨ex, D2, W2, rfl, e2, r2, t2⟩ := k2 x2 m2 h2
  exact ⟨fun _ => Wp.room (Nat.sub_le _ _) (Nat.sub_le _ _) (k D2 W2 e2 r2 t2), fun z => absurd ex z⟩
theorem G_692 (i1 : IX n1 i) (hB : Both n1 D W N mX9_end mX10_end [vi (D 1 (w32 (i + 1)))]) (k : Kt n1 bc bs D N i) : Wp 221 bc bs mL_law 692 (LSt i) [] (D, rho n1 W) LQ := by
  obtain ⟨K1, c1, k1⟩ := hB
  refine sg_L_law_692 (d := 220) (a0 := 1) (a1 := 4) (a2 := 152) (a3 := 193) (a4 := i) ⟨Or.inr ⟨by decide, rfl⟩, i1 1 (by decide) (by decide), rfl, cI c1 (fun x1 m1 h1 => ?_)⟩
  obtain ⟨D1, W1, rfl, e1, K2, c2, k2⟩ := k1 x1 m1 h1
  rw [← e1] at c2
  refine ⟨Or.inr ⟨by decide, rfl⟩, i1 1 (by decide) (by decide), rfl, cI c2 (fun x2 m2 h2 => ?_)⟩
  obtain ⟨ex, D2, W2, rfl, e2, r2, t2⟩ := k2 x2 m2 h2
  exact ⟨fun _ => Wp.room (Nat.sub_le _ _) (Nat.sub_le _ _) (k D2 W2 e2 r2 t2), fun z => absurd ex z⟩
theorem G_717 (i1 : IX n1 i) (hB : Both n1 D W N mX9_walk mX10_walk [vi (D 1 (w32 (i + 1)))]) (k : Kt n1 bc bs D N i) : Wp 221 bc bs mL_law 717 (LSt i) [] (D, rho n1 W) LQ := by
  obtain ⟨K1, c1, k1⟩ := hB
  refine sg_L_law_717 (d := 220) (a0 := 1) (a1 := 4) (a2 := 152) (a3 := 193) (a4 := i) ⟨Or.inr ⟨by decide, rfl⟩, i1 1 (by decide) (by decide), rfl, cI c1 (fun x1 m1 h1 => ?_)⟩
  obtain ⟨D1, W1, rfl, e1, K2, c2, k2⟩ := k1 x1 m1 h1
  rw [← e1] at c2
  refine ⟨Or.inr ⟨by decide, rfl⟩, i1 1 (by decide) (by decide), rfl, cI c2 (fun x2 m2 h2 => ?_)⟩
  obtain ⟨ex, D2, W2, rfl, e2, r2, t2⟩ := k2 x2 m2 h2
  exact ⟨fun _ => Wp.room (Nat.sub_le _ _) (Nat.sub_le _ _) (k D2 W2 e2 r2 t2), fun z => absurd ex z⟩
theorem G_742 (i1 : IX n1 i) (hB : Both n1 D W N mX9_law mX10_law [vi (D 1 (w32 (i + 1)))]) (k : Kt n1 bc bs D N i) : Wp 221 bc bs mL_law 742 (LSt i) [] (D, rho n1 W) LQ := by
  obtain ⟨K1, c1, k1⟩ := hB
  refine sg_L_law_742 (d := 220) (a0 := 1) (a1 := 4) (a2 := 152) (a3 := 193) (a4 := i) ⟨Or.inr ⟨by decide, rfl⟩, i1 1 (by decide) (by decide), rfl, cI c1 (fun x1 m1 h1 => ?_)⟩
  obtain ⟨D1, W1, rfl, e1, K2, c2, k2⟩ := k1 x1 m1 h1
  rw [← e1] at c2
  refine ⟨Or.inr ⟨by decide, rfl⟩, i1 1 (by decide) (by decide), rfl, cI c2 (fun x2 m2 h2 => ?_)⟩
  obtain ⟨ex, D2, W2, rfl, e2, r2, t2⟩ := k2 x2 m2 h2
  exact ⟨fun _ => Wp.room (Nat.sub_le _ _) (Nat.sub_le _ _) (k D2 W2 e2 r2 t2), fun z => absurd ex z⟩
theorem G_835 (i1 : IX n1 i) (hB : Both n1 D W N mX9_steps mX10_steps [vi (D 1 (w32 (i + 1)))]) (k : Kt n1 bc bs D N i) : Wp 221 bc bs mL_law 835 (LSt i) [] (D, rho n1 W) LQ := by
  obtain ⟨K1, c1, k1⟩ := hB
  refine sg_L_law_835 (d := 220) (a0 := 1) (a1 := 4) (a2 := 152) (a3 := 193) (a4 := i) ⟨Or.inr ⟨by decide, rfl⟩, i1 1 (by decide) (by decide), rfl, cI c1 (fun x1 m1 h1 => ?_)⟩
  obtain ⟨D1, W1, rfl, e1, K2, c2, k2⟩ := k1 x1 m1 h1
  rw [← e1] at c2
  refine ⟨Or.inr ⟨by decide, rfl⟩, i1 1 (by decide) (by decide), rfl, cI c2 (fun x2 m2 h2 => ?_)⟩
  obtain ⟨ex, D2, W2, rfl, e2, r2, t2⟩ := k2 x2 m2 h2
  exact ⟨fun _ => Wp.room (Nat.sub_le _ _) (Nat.sub_le _ _) (k D2 W2 e2 r2 t2), fun z => absurd ex z⟩
theorem G_860 (i1 : IX n1 i) (hB : Both n1 D W N mX9_go mX10_go [vi (D 1 (w32 (i + 1))), vi (D 1 (w32 (i + 2))), vi (D 1 (w32 (i + 3)))]) (k : Kt n1 bc bs D N i) : Wp 221 bc bs mL_law 860 (LSt i) [] (D, rho n1 W) LQ := by
  obtain ⟨K1, c1, k1⟩ := hB
  refine sg_L_law_860 (d := 220) (a0 := 1) (a1 := 4) (a2 := 152) (a3 := 193) (a4 := i) ⟨Or.inr ⟨by decide, rfl⟩, i1 1 (by decide) (by decide), i1 2 (by decide) (by decide), i1 3 (by decide) (by decide), rfl, cI c1 (fun x1 m1 h1 => ?_)⟩
  obtain ⟨D1, W1, rfl, e1, K2, c2, k2⟩ := k1 x1 m1 h1
  rw [← e1] at c2
  refine ⟨Or.inr ⟨by decide, rfl⟩, i1 1 (by decide) (by decide), i1 2 (by decide) (by decide), i1 3 (by decide) (by decide), rfl, cI c2 (fun x2 m2 h2 => ?_)⟩
  obtain ⟨ex, D2, W2, rfl, e2, r2, t2⟩ := k2 x2 m2 h2
  exact ⟨fun _ => Wp.room (Nat.sub_le _ _) (Nat.sub_le _ _) (k D2 W2 e2 r2 t2), fun z => absurd ex z⟩
theorem G_909 (i1 : IX n1 i) (hB : Both n1 D W N mX9_swing mX10_swing [vi (D 1 (w32 (i + 1)))]) (k : Kt n1 bc bs D N i) : Wp 221 bc bs mL_law 909 (LSt i) [] (D, rho n1 W) LQ := by
  obtain ⟨K1, c1, k1⟩ := hB
  refine sg_L_law_909 (d := 220) (a0 := 1) (a1 := 4) (a2 := 152) (a3 := 193) (a4 := i) ⟨Or.inr ⟨by decide, rfl⟩, i1 1 (by decide) (by decide), rfl, cI c1 (fun x1 m1 h1 => ?_)⟩
  obtain ⟨D1, W1, rfl, e1, K2, c2, k2⟩ := k1 x1 m1 h1
  rw [← e1] at c2
  refine ⟨Or.inr ⟨by decide, rfl⟩, i1 1 (by decide) (by decide), rfl, cI c2 (fun x2 m2 h2 => ?_)⟩
  obtain ⟨ex, D2, W2, rfl, e2, r2, t2⟩ := k2 x2 m2 h2
  exact ⟨fun _ => Wp.room (Nat.sub_le _ _) (Nat.sub_le _ _) (k D2 W2 e2 r2 t2), fun z => absurd ex z⟩
theorem G_934 (i1 : IX n1 i) (hB : Both n1 D W N mX9_dies mX10_dies [vi (D 1 (w32 (i + 1))), vi (D 1 (w32 (i + 2)))]) (k : Kt n1 bc bs D N i) : Wp 221 bc bs mL_law 934 (LSt i) [] (D, rho n1 W) LQ := by
  obtain ⟨K1, c1, k1⟩ := hB
  refine sg_L_law_934 (d := 220) (a0 := 1) (a1 := 4) (a2 := 152) (a3 := 193) (a4 := i) ⟨Or.inr ⟨by decide, rfl⟩, i1 1 (by decide) (by decide), i1 2 (by decide) (by decide), rfl, cI c1 (fun x1 m1 h1 => ?_)⟩
  obtain ⟨D1, W1, rfl, e1, K2, c2, k2⟩ := k1 x1 m1 h1
  rw [← e1] at c2
  refine ⟨Or.inr ⟨by decide, rfl⟩, i1 1 (by decide) (by decide), i1 2 (by decide) (by decide), rfl, cI c2 (fun x2 m2 h2 => ?_)⟩
  obtain ⟨ex, D2, W2, rfl, e2, r2, t2⟩ := k2 x2 m2 h2
  exact ⟨fun _ => Wp.room (Nat.sub_le _ _) (Nat.sub_le _ _) (k D2 W2 e2 r2 t2), fun z => absurd ex z⟩
theorem G_971 (i1 : IX n1 i) (hB : Both n1 D W N mX9_worst mX10_worst [vi (D 1 (w32 (i + 1)))]) (k : Kt n1 bc bs D N i) : Wp 221 bc bs mL_law 971 (LSt i) [] (D, rho n1 W) LQ := by
  obtain ⟨K1, c1, k1⟩ := hB
  refine sg_L_law_971 (d := 220) (a0 := 1) (a1 := 4) (a2 := 152) (a3 := 193) (a4 := i) ⟨Or.inr ⟨by decide, rfl⟩, i1 1 (by decide) (by decide), rfl, cI c1 (fun x1 m1 h1 => ?_)⟩
  obtain ⟨D1, W1, rfl, e1, K2, c2, k2⟩ := k1 x1 m1 h1
  rw [← e1] at c2
  refine ⟨Or.inr ⟨by decide, rfl⟩, i1 1 (by decide) (by decide), rfl, cI c2 (fun x2 m2 h2 => ?_)⟩
  obtain ⟨ex, D2, W2, rfl, e2, r2, t2⟩ := k2 x2 m2 h2
  exact ⟨fun _ => Wp.room (Nat.sub_le _ _) (Nat.sub_le _ _) (k D2 W2 e2 r2 t2), fun z => absurd ex z⟩
theorem G_996 (i1 : IX n1 i) (hB : Both n1 D W N mX9_would mX10_would [vi (D 1 (w32 (i + 1))), vi (D 1 (w32 (i + 2)))]) (k : Kt n1 bc bs D N i) : Wp 221 bc bs mL_law 996 (LSt i) [] (D, rho n1 W) LQ := by
  obtain ⟨K1, c1, k1⟩ := hB
  refine sg_L_law_996 (d := 220) (a0 := 1) (a1 := 4) (a2 := 152) (a3 := 193) (a4 := i) ⟨Or.inr ⟨by decide, rfl⟩, i1 1 (by decide) (by decide), i1 2 (by decide) (by decide), rfl, cI c1 (fun x1 m1 h1 => ?_)⟩
  obtain ⟨D1, W1, rfl, e1, K2, c2, k2⟩ := k1 x1 m1 h1
  rw [← e1] at c2
  refine ⟨Or.inr ⟨by decide, rfl⟩, i1 1 (by decide) (by decide), i1 2 (by decide) (by decide), rfl, cI c2 (fun x2 m2 h2 => ?_)⟩
  obtain ⟨ex, D2, W2, rfl, e2, r2, t2⟩ := k2 x2 m2 h2
  exact ⟨fun _ => Wp.room (Nat.sub_le _ _) (Nat.sub_le _ _) (k D2 W2 e2 r2 t2), fun z => absurd ex z⟩
theorem G_1033 (i1 : IX n1 i) (hB : Both n1 D W N mX9_odds mX10_odds [vi (D 1 (w32 (i + 1))), vi (D 1 (w32 (i + 2)))]) (k : Kt n1 bc bs D N i) : Wp 221 bc bs mL_law 1033 (LSt i) [] (D, rho n1 W) LQ := by
  obtain ⟨K1, c1, k1⟩ := hB
  refine sg_L_law_1033 (d := 220) (a0 := 1) (a1 := 4) (a2 := 152) (a3 := 193) (a4 := i) ⟨Or.inr ⟨by decide, rfl⟩, i1 1 (by decide) (by decide), i1 2 (by decide) (by decide), rfl, cI c1 (fun x1 m1 h1 => ?_)⟩
  obtain ⟨D1, W1, rfl, e1, K2, c2, k2⟩ := k1 x1 m1 h1
  rw [← e1] at c2
  refine ⟨Or.inr ⟨by decide, rfl⟩, i1 1 (by decide) (by decide), i1 2 (by decide) (by decide), rfl, cI c2 (fun x2 m2 h2 => ?_)⟩
  obtain ⟨ex, D2, W2, rfl, e2, r2, t2⟩ := k2 x2 m2 h2
  exact ⟨fun _ => Wp.room (Nat.sub_le _ _) (Nat.sub_le _ _) (k D2 W2 e2 r2 t2), fun z => absurd ex z⟩
theorem G_1070 (i1 : IX n1 i) (hB : Both n1 D W N mX9_full mX10_full [vi (D 1 (w32 (i + 1)))]) (k : Kt n1 bc bs D N i) : Wp 221 bc bs mL_law 1070 (LSt i) [] (D, rho n1 W) LQ := by
  obtain ⟨K1, c1, k1⟩ := hB
  refine sg_L_law_1070 (d := 220) (a0 := 1) (a1 := 4) (a2 := 152) (a3 := 193) (a4 := i) ⟨Or.inr ⟨by decide, rfl⟩, i1 1 (by decide) (by decide), rfl, cI c1 (fun x1 m1 h1 => ?_)⟩
  obtain ⟨D1, W1, rfl, e1, K2, c2, k2⟩ := k1 x1 m1 h1
  rw [← e1] at c2
  refine ⟨Or.inr ⟨by decide, rfl⟩, i1 1 (by decide) (by decide), rfl, cI c2 (fun x2 m2 h2 => ?_)⟩
  obtain ⟨ex, D2, W2, rfl, e2, r2, t2⟩ := k2 x2 m2 h2
  exact ⟨fun _ => Wp.room (Nat.sub_le _ _) (Nat.sub_le _ _) (k D2 W2 e2 r2 t2), fun z => absurd ex z⟩
theorem G_1095 (i1 : IX n1 i) (hB : Both n1 D W N mX9_leads mX10_leads [vi (D 1 (w32 (i + 1))), vi (D 1 (w32 (i + 2)))]) (k : Kt n1 bc bs D N i) : Wp 221 bc bs mL_law 1095 (LSt i) [] (D, rho n1 W) LQ := by
  obtain ⟨K1, c1, k1⟩ := hB
  refine sg_L_law_1095 (d := 220) (a0 := 1) (a1 := 4) (a2 := 152) (a3 := 193) (a4 := i) ⟨Or.inr ⟨by decide, rfl⟩, i1 1 (by decide) (by decide), i1 2 (by decide) (by decide), rfl, cI c1 (fun x1 m1 h1 => ?_)⟩
  obtain ⟨D1, W1, rfl, e1, K2, c2, k2⟩ := k1 x1 m1 h1
  rw [← e1] at c2
  refine ⟨Or.inr ⟨by decide, rfl⟩, i1 1 (by decide) (by decide), i1 2 (by decide) (by decide), rfl, cI c2 (fun x2 m2 h2 => ?_)⟩
  obtain ⟨ex, D2, W2, rfl, e2, r2, t2⟩ := k2 x2 m2 h2
  exact ⟨fun _ => Wp.room (Nat.sub_le _ _) (Nat.sub_le _ _) (k D2 W2 e2 r2 t2), fun z => absurd ex z⟩
theorem G_1132 (i1 : IX n1 i) (hB : Both n1 D W N mX9_plan mX10_plan [vi (D 1 (w32 (i + 1)))]) (k : Kt n1 bc bs D N i) : Wp 221 bc bs mL_law 1132 (LSt i) [] (D, rho n1 W) LQ := by
  obtain ⟨K1, c1, k1⟩ := hB
  refine sg_L_law_1132 (d := 220) (a0 := 1) (a1 := 4) (a2 := 152) (a3 := 193) (a4 := i) ⟨Or.inr ⟨by decide, rfl⟩, i1 1 (by decide) (by decide), rfl, cI c1 (fun x1 m1 h1 => ?_)⟩
  obtain ⟨D1, W1, rfl, e1, K2, c2, k2⟩ := k1 x1 m1 h1
  rw [← e1] at c2
  refine ⟨Or.inr ⟨by decide, rfl⟩, i1 1 (by decide) (by decide), rfl, cI c2 (fun x2 m2 h2 => ?_)⟩
  obtain ⟨ex, D2, W2, rfl, e2, r2, t2⟩ := k2 x2 m2 h2
  exact ⟨fun _ => Wp.room (Nat.sub_le _ _) (Nat.sub_le _ _) (k D2 W2 e2 r2 t2), fun z => absurd ex z⟩
theorem G_1157 (i1 : IX n1 i) (hB : Both n1 D W N mX9_helps mX10_helps [vi (D 1 (w32 (i + 1))), vi (D 1 (w32 (i + 2)))]) (k : Kt n1 bc bs D N i) : Wp 221 bc bs mL_law 1157 (LSt i) [] (D, rho n1 W) LQ := by
  obtain ⟨K1, c1, k1⟩ := hB
  refine sg_L_law_1157 (d := 220) (a0 := 1) (a1 := 4) (a2 := 152) (a3 := 193) (a4 := i) ⟨Or.inr ⟨by decide, rfl⟩, i1 1 (by decide) (by decide), i1 2 (by decide) (by decide), rfl, cI c1 (fun x1 m1 h1 => ?_)⟩
  obtain ⟨D1, W1, rfl, e1, K2, c2, k2⟩ := k1 x1 m1 h1
  rw [← e1] at c2
  refine ⟨Or.inr ⟨by decide, rfl⟩, i1 1 (by decide) (by decide), i1 2 (by decide) (by decide), rfl, cI c2 (fun x2 m2 h2 => ?_)⟩
  obtain ⟨ex, D2, W2, rfl, e2, r2, t2⟩ := k2 x2 m2 h2
  exact ⟨fun _ => Wp.room (Nat.sub_le _ _) (Nat.sub_le _ _) (k D2 W2 e2 r2 t2), fun z => absurd ex z⟩
theorem G_1194 (i1 : IX n1 i) (hB : Both n1 D W N mX9_layers mX10_layers [vi (D 1 (w32 (i + 1)))]) (k : Kt n1 bc bs D N i) : Wp 221 bc bs mL_law 1194 (LSt i) [] (D, rho n1 W) LQ := by
  obtain ⟨K1, c1, k1⟩ := hB
  refine sg_L_law_1194 (d := 220) (a0 := 1) (a1 := 4) (a2 := 152) (a3 := 193) (a4 := i) ⟨Or.inr ⟨by decide, rfl⟩, i1 1 (by decide) (by decide), rfl, cI c1 (fun x1 m1 h1 => ?_)⟩
  obtain ⟨D1, W1, rfl, e1, K2, c2, k2⟩ := k1 x1 m1 h1
  rw [← e1] at c2
  refine ⟨Or.inr ⟨by decide, rfl⟩, i1 1 (by decide) (by decide), rfl, cI c2 (fun x2 m2 h2 => ?_)⟩
  obtain ⟨ex, D2, W2, rfl, e2, r2, t2⟩ := k2 x2 m2 h2
  exact ⟨fun _ => Wp.room (Nat.sub_le _ _) (Nat.sub_le _ _) (k D2 W2 e2 r2 t2), fun z => absurd ex z⟩
theorem G_1219 (i1 : IX n1 i) (hB : Both n1 D W N mX9_off mX10_off [vi (D 1 (w32 (i + 1))), vi (D 1 (w32 (i + 2))), vi (D 1 (w32 (i + 3)))]) (k : Kt n1 bc bs D N i) : Wp 221 bc bs mL_law 1219 (LSt i) [] (D, rho n1 W) LQ := by
  obtain ⟨K1, c1, k1⟩ := hB
  refine sg_L_law_1219 (d := 220) (a0 := 1) (a1 := 4) (a2 := 152) (a3 := 193) (a4 := i) ⟨Or.inr ⟨by decide, rfl⟩, i1 1 (by decide) (by decide), i1 2 (by decide) (by decide), i1 3 (by decide) (by decide), rfl, cI c1 (fun x1 m1 h1 => ?_)⟩
  obtain ⟨D1, W1, rfl, e1, K2, c2, k2⟩ := k1 x1 m1 h1
  rw [← e1] at c2
  refine ⟨Or.inr ⟨by decide, rfl⟩, i1 1 (by decide) (by decide), i1 2 (by decide) (by decide), i1 3 (by decide) (by decide), rfl, cI c2 (fun x2 m2 h2 => ?_)⟩
  obtain ⟨ex, D2, W2, rfl, e2, r2, t2⟩ := k2 x2 m2 h2
  exact ⟨fun _ => Wp.room (Nat.sub_le _ _) (Nat.sub_le _ _) (k D2 W2 e2 r2 t2), fun z => absurd ex z⟩
theorem G_1268 (i1 : IX n1 i) (hB : Both n1 D W N mX9_few mX10_few [vi (D 1 (w32 (i + 1))), vi (D 1 (w32 (i + 2)))]) (k : Kt n1 bc bs D N i) : Wp 221 bc bs mL_law 1268 (LSt i) [] (D, rho n1 W) LQ := by
  obtain ⟨K1, c1, k1⟩ := hB
  refine sg_L_law_1268 (d := 220) (a0 := 1) (a1 := 4) (a2 := 152) (a3 := 193) (a4 := i) ⟨Or.inr ⟨by decide, rfl⟩, i1 1 (by decide) (by decide), i1 2 (by decide) (by decide), rfl, cI c1 (fun x1 m1 h1 => ?_)⟩
  obtain ⟨D1, W1, rfl, e1, K2, c2, k2⟩ := k1 x1 m1 h1
  rw [← e1] at c2
  refine ⟨Or.inr ⟨by decide, rfl⟩, i1 1 (by decide) (by decide), i1 2 (by decide) (by decide), rfl, cI c2 (fun x2 m2 h2 => ?_)⟩
  obtain ⟨ex, D2, W2, rfl, e2, r2, t2⟩ := k2 x2 m2 h2
  exact ⟨fun _ => Wp.room (Nat.sub_le _ _) (Nat.sub_le _ _) (k D2 W2 e2 r2 t2), fun z => absurd ex z⟩
theorem G_1305 (i1 : IX n1 i) (hB : Both n1 D W N mX9_best mX10_best [vi (D 1 (w32 (i + 1))), vi (D 1 (w32 (i + 2)))]) (k : Kt n1 bc bs D N i) : Wp 221 bc bs mL_law 1305 (LSt i) [] (D, rho n1 W) LQ := by
  obtain ⟨K1, c1, k1⟩ := hB
  refine sg_L_law_1305 (d := 220) (a0 := 1) (a1 := 4) (a2 := 152) (a3 := 193) (a4 := i) ⟨Or.inr ⟨by decide, rfl⟩, i1 1 (by decide) (by decide), i1 2 (by decide) (by decide), rfl, cI c1 (fun x1 m1 h1 => ?_)⟩
  obtain ⟨D1, W1, rfl, e1, K2, c2, k2⟩ := k1 x1 m1 h1
  rw [← e1] at c2
  refine ⟨Or.inr ⟨by decide, rfl⟩, i1 1 (by decide) (by decide), i1 2 (by decide) (by decide), rfl, cI c2 (fun x2 m2 h2 => ?_)⟩
  obtain ⟨ex, D2, W2, rfl, e2, r2, t2⟩ := k2 x2 m2 h2
  exact ⟨fun _ => Wp.room (Nat.sub_le _ _) (Nat.sub_le _ _) (k D2 W2 e2 r2 t2), fun z => absurd ex z⟩
theorem G_1342 (i1 : IX n1 i) (hB : Both n1 D W N mX9_lid mX10_lid [vi (D 1 (w32 (i + 1))), vi (D 1 (w32 (i + 2)))]) (k : Kt n1 bc bs D N i) : Wp 221 bc bs mL_law 1342 (LSt i) [] (D, rho n1 W) LQ := by
  obtain ⟨K1, c1, k1⟩ := hB
  refine sg_L_law_1342 (d := 220) (a0 := 1) (a1 := 4) (a2 := 152) (a3 := 193) (a4 := i) ⟨Or.inr ⟨by decide, rfl⟩, i1 1 (by decide) (by decide), i1 2 (by decide) (by decide), rfl, cI c1 (fun x1 m1 h1 => ?_)⟩
  obtain ⟨D1, W1, rfl, e1, K2, c2, k2⟩ := k1 x1 m1 h1
  rw [← e1] at c2
  refine ⟨Or.inr ⟨by decide, rfl⟩, i1 1 (by decide) (by decide), i1 2 (by decide) (by decide), rfl, cI c2 (fun x2 m2 h2 => ?_)⟩
  obtain ⟨ex, D2, W2, rfl, e2, r2, t2⟩ := k2 x2 m2 h2
  exact ⟨fun _ => Wp.room (Nat.sub_le _ _) (Nat.sub_le _ _) (k D2 W2 e2 r2 t2), fun z => absurd ex z⟩
theorem G_1379 (i1 : IX n1 i) (hB : Both n1 D W N mX9_form mX10_form [vi (D 1 (w32 (i + 1)))]) (k : Kt n1 bc bs D N i) : Wp 221 bc bs mL_law 1379 (LSt i) [] (D, rho n1 W) LQ := by
  obtain ⟨K1, c1, k1⟩ := hB
  refine sg_L_law_1379 (d := 220) (a0 := 1) (a1 := 4) (a2 := 152) (a3 := 193) (a4 := i) ⟨Or.inr ⟨by decide, rfl⟩, i1 1 (by decide) (by decide), rfl, cI c1 (fun x1 m1 h1 => ?_)⟩
  obtain ⟨D1, W1, rfl, e1, K2, c2, k2⟩ := k1 x1 m1 h1
  rw [← e1] at c2
  refine ⟨Or.inr ⟨by decide, rfl⟩, i1 1 (by decide) (by decide), rfl, cI c2 (fun x2 m2 h2 => ?_)⟩
  obtain ⟨ex, D2, W2, rfl, e2, r2, t2⟩ := k2 x2 m2 h2
  exact ⟨fun _ => Wp.room (Nat.sub_le _ _) (Nat.sub_le _ _) (k D2 W2 e2 r2 t2), fun z => absurd ex z⟩
theorem G_1404 (i1 : IX n1 i) (hB : Both n1 D W N mX9_turn mX10_turn [vi (D 1 (w32 (i + 1))), vi (D 1 (w32 (i + 2)))]) (k : Kt n1 bc bs D N i) : Wp 221 bc bs mL_law 1404 (LSt i) [] (D, rho n1 W) LQ := by
  obtain ⟨K1, c1, k1⟩ := hB
  refine sg_L_law_1404 (d := 220) (a0 := 1) (a1 := 4) (a2 := 152) (a3 := 193) (a4 := i) ⟨Or.inr ⟨by decide, rfl⟩, i1 1 (by decide) (by decide), i1 2 (by decide) (by decide), rfl, cI c1 (fun x1 m1 h1 => ?_)⟩
  obtain ⟨D1, W1, rfl, e1, K2, c2, k2⟩ := k1 x1 m1 h1
  rw [← e1] at c2
  refine ⟨Or.inr ⟨by decide, rfl⟩, i1 1 (by decide) (by decide), i1 2 (by decide) (by decide), rfl, cI c2 (fun x2 m2 h2 => ?_)⟩
  obtain ⟨ex, D2, W2, rfl, e2, r2, t2⟩ := k2 x2 m2 h2
  exact ⟨fun _ => Wp.room (Nat.sub_le _ _) (Nat.sub_le _ _) (k D2 W2 e2 r2 t2), fun z => absurd ex z⟩
theorem G_1441 (i1 : IX n1 i) (hB : Both n1 D W N mX9_door mX10_door [vi (D 1 (w32 (i + 1)))]) (k : Kt n1 bc bs D N i) : Wp 221 bc bs mL_law 1441 (LSt i) [] (D, rho n1 W) LQ := by
  obtain ⟨K1, c1, k1⟩ := hB
  refine sg_L_law_1441 (d := 220) (a0 := 1) (a1 := 4) (a2 := 152) (a3 := 193) (a4 := i) ⟨Or.inr ⟨by decide, rfl⟩, i1 1 (by decide) (by decide), rfl, cI c1 (fun x1 m1 h1 => ?_)⟩
  obtain ⟨D1, W1, rfl, e1, K2, c2, k2⟩ := k1 x1 m1 h1
  rw [← e1] at c2
  refine ⟨Or.inr ⟨by decide, rfl⟩, i1 1 (by decide) (by decide), rfl, cI c2 (fun x2 m2 h2 => ?_)⟩
  obtain ⟨ex, D2, W2, rfl, e2, r2, t2⟩ := k2 x2 m2 h2
  exact ⟨fun _ => Wp.room (Nat.sub_le _ _) (Nat.sub_le _ _) (k D2 W2 e2 r2 t2), fun z => absurd ex z⟩
theorem G_1466 (i1 : IX n1 i) (hB : Both n1 D W N mX9_two mX10_two [vi (D 1 (w32 (i + 1)))]) (k : Kt n1 bc bs D N i) : Wp 221 bc bs mL_law 1466 (LSt i) [] (D, rho n1 W) LQ := by
  obtain ⟨K1, c1, k1⟩ := hB
  refine sg_L_law_1466 (d := 220) (a0 := 1) (a1 := 4) (a2 := 152) (a3 := 193) (a4 := i) ⟨Or.inr ⟨by decide, rfl⟩, i1 1 (by decide) (by decide), rfl, cI c1 (fun x1 m1 h1 => ?_)⟩
  obtain ⟨D1, W1, rfl, e1, K2, c2, k2⟩ := k1 x1 m1 h1
  rw [← e1] at c2
  refine ⟨Or.inr ⟨by decide, rfl⟩, i1 1 (by decide) (by decide), rfl, cI c2 (fun x2 m2 h2 => ?_)⟩
  obtain ⟨ex, D2, W2, rfl, e2, r2, t2⟩ := k2 x2 m2 h2
  exact ⟨fun _ => Wp.room (Nat.sub_le _ _) (Nat.sub_le _ _) (k D2 W2 e2 r2 t2), fun z => absurd ex z⟩
theorem G_1491 (i1 : IX n1 i) (hB : Both n1 D W N mX9_stop mX10_stop [vi (D 1 (w32 (i + 1)))]) (k : Kt n1 bc bs D N i) : Wp 221 bc bs mL_law 1491 (LSt i) [] (D, rho n1 W) LQ := by
  obtain ⟨K1, c1, k1⟩ := hB
  refine sg_L_law_1491 (d := 220) (a0 := 1) (a1 := 4) (a2 := 152) (a3 := 193) (a4 := i) ⟨Or.inr ⟨by decide, rfl⟩, i1 1 (by decide) (by decide), rfl, cI c1 (fun x1 m1 h1 => ?_)⟩
  obtain ⟨D1, W1, rfl, e1, K2, c2, k2⟩ := k1 x1 m1 h1
  rw [← e1] at c2
  refine ⟨Or.inr ⟨by decide, rfl⟩, i1 1 (by decide) (by decide), rfl, cI c2 (fun x2 m2 h2 => ?_)⟩
  obtain ⟨ex, D2, W2, rfl, e2, r2, t2⟩ := k2 x2 m2 h2
  exact ⟨fun _ => Wp.room (Nat.sub_le _ _) (Nat.sub_le _ _) (k D2 W2 e2 r2 t2), fun z => absurd ex z⟩
theorem G_1516 (i1 : IX n1 i) (hB : Both n1 D W N mX9_pause mX10_pause [vi (D 1 (w32 (i + 1))), vi (D 1 (w32 (i + 2)))]) (k : Kt n1 bc bs D N i) : Wp 221 bc bs mL_law 1516 (LSt i) [] (D, rho n1 W) LQ := by
  obtain ⟨K1, c1, k1⟩ := hB
  refine sg_L_law_1516 (d := 220) (a0 := 1) (a1 := 4) (a2 := 152) (a3 := 193) (a4 := i) ⟨Or.inr ⟨by decide, rfl⟩, i1 1 (by decide) (by decide), i1 2 (by decide) (by decide), rfl, cI c1 (fun x1 m1 h1 => ?_)⟩
  obtain ⟨D1, W1, rfl, e1, K2, c2, k2⟩ := k1 x1 m1 h1
  rw [← e1] at c2
  refine ⟨Or.inr ⟨by decide, rfl⟩, i1 1 (by decide) (by decide), i1 2 (by decide) (by decide), rfl, cI c2 (fun x2 m2 h2 => ?_)⟩
  obtain ⟨ex, D2, W2, rfl, e2, r2, t2⟩ := k2 x2 m2 h2
  exact ⟨fun _ => Wp.room (Nat.sub_le _ _) (Nat.sub_le _ _) (k D2 W2 e2 r2 t2), fun z => absurd ex z⟩
theorem G_1579 (i1 : IX n1 i) (hB : Both n1 D W N mX9_spot mX10_spot [vi (D 1 (w32 (i + 1)))]) (k : Kt n1 bc bs D N i) : Wp 221 bc bs mL_law 1579 (LSt i) [] (D, rho n1 W) LQ := by
  obtain ⟨K1, c1, k1⟩ := hB
  refine sg_L_law_1579 (d := 220) (a0 := 1) (a1 := 4) (a2 := 152) (a3 := 193) (a4 := i) ⟨Or.inr ⟨by decide, rfl⟩, i1 1 (by decide) (by decide), rfl, cI c1 (fun x1 m1 h1 => ?_)⟩
  obtain ⟨D1, W1, rfl, e1, K2, c2, k2⟩ := k1 x1 m1 h1
  rw [← e1] at c2
  refine ⟨Or.inr ⟨by decide, rfl⟩, i1 1 (by decide) (by decide), rfl, cI c2 (fun x2 m2 h2 => ?_)⟩
  obtain ⟨ex, D2, W2, rfl, e2, r2, t2⟩ := k2 x2 m2 h2
  exact ⟨fun _ => Wp.room (Nat.sub_le _ _) (Nat.sub_le _ _) (k D2 W2 e2 r2 t2), fun z => absurd ex z⟩
theorem G_1604 (i1 : IX n1 i) (hB : Both n1 D W N mX9_wipe mX10_wipe []) (k : Kt n1 bc bs D N i) : Wp 221 bc bs mL_law 1604 (LSt i) [] (D, rho n1 W) LQ := by
  obtain ⟨K1, c1, k1⟩ := hB
  refine sg_L_law_1604 (d := 220) (a0 := 1) (a1 := 4) (a2 := 152) (a3 := 193) (a4 := i) ⟨rfl, cI c1 (fun x1 m1 h1 => ?_)⟩
  obtain ⟨D1, W1, rfl, e1, K2, c2, k2⟩ := k1 x1 m1 h1
  refine ⟨rfl, cI c2 (fun x2 m2 h2 => ?_)⟩
  obtain ⟨ex, D2, W2, rfl, e2, r2, t2⟩ := k2 x2 m2 h2
  exact ⟨fun _ => Wp.room (Nat.sub_le _ _) (Nat.sub_le _ _) (k D2 W2 e2 r2 t2), fun z => absurd ex z⟩
theorem G_1617 (i1 : IX n1 i) (hB : Both n1 D W N mX9_far mX10_far [vi (D 1 (w32 (i + 1))), vi (D 1 (w32 (i + 2)))]) (k : Kt n1 bc bs D N i) : Wp 221 bc bs mL_law 1617 (LSt i) [] (D, rho n1 W) LQ := by
  obtain ⟨K1, c1, k1⟩ := hB
  refine sg_L_law_1617 (d := 220) (a0 := 1) (a1 := 4) (a2 := 152) (a3 := 193) (a4 := i) ⟨Or.inr ⟨by decide, rfl⟩, i1 1 (by decide) (by decide), i1 2 (by decide) (by decide), rfl, cI c1 (fun x1 m1 h1 => ?_)⟩
  obtain ⟨D1, W1, rfl, e1, K2, c2, k2⟩ := k1 x1 m1 h1
  rw [← e1] at c2
  refine ⟨Or.inr ⟨by decide, rfl⟩, i1 1 (by decide) (by decide), i1 2 (by decide) (by decide), rfl, cI c2 (fun x2 m2 h2 => ?_)⟩
  obtain ⟨ex, D2, W2, rfl, e2, r2, t2⟩ := k2 x2 m2 h2
  exact ⟨fun _ => Wp.room (Nat.sub_le _ _) (Nat.sub_le _ _) (k D2 W2 e2 r2 t2), fun z => absurd ex z⟩
theorem G_1654 (i1 : IX n1 i) (hB : Both n1 D W N mX9_who mX10_who []) (k : Kt n1 bc bs D N i) : Wp 221 bc bs mL_law 1654 (LSt i) [] (D, rho n1 W) LQ := by
  obtain ⟨K1, c1, k1⟩ := hB
  refine sg_L_law_1654 (d := 220) (a0 := 1) (a1 := 4) (a2 := 152) (a3 := 193) (a4 := i) ⟨rfl, cI c1 (fun x1 m1 h1 => ?_)⟩
  obtain ⟨D1, W1, rfl, e1, K2, c2, k2⟩ := k1 x1 m1 h1
  refine ⟨rfl, cI c2 (fun x2 m2 h2 => ?_)⟩
  obtain ⟨ex, D2, W2, rfl, e2, r2, t2⟩ := k2 x2 m2 h2
  exact ⟨fun _ => Wp.room (Nat.sub_le _ _) (Nat.sub_le _ _) (k D2 W2 e2 r2 t2), fun z => absurd ex z⟩
theorem G_1667 (i1 : IX n1 i) (hB : Both n1 D W N mX9_film mX10_film [vi (D 1 (w32 (i + 1))), vi (D 1 (w32 (i + 2))), vi (D 1 (w32 (i + 3))), vi (D 1 (w32 (i + 4)))]) (k : Kt n1 bc bs D N i) : Wp 221 bc bs mL_law 1667 (LSt i) [] (D, rho n1 W) LQ := by
  obtain ⟨K1, c1, k1⟩ := hB
  refine sg_L_law_1667 (d := 220) (a0 := 1) (a1 := 4) (a2 := 152) (a3 := 193) (a4 := i) ⟨Or.inr ⟨by decide, rfl⟩, i1 1 (by decide) (by decide), i1 2 (by decide) (by decide), i1 3 (by decide) (by decide), i1 4 (by decide) (by decide), rfl, cI c1 (fun x1 m1 h1 => ?_)⟩
  obtain ⟨D1, W1, rfl, e1, K2, c2, k2⟩ := k1 x1 m1 h1
  rw [← e1] at c2
  refine ⟨Or.inr ⟨by decide, rfl⟩, i1 1 (by decide) (by decide), i1 2 (by decide) (by decide), i1 3 (by decide) (by decide), i1 4 (by decide) (by decide), rfl, cI c2 (fun x2 m2 h2 => ?_)⟩
  obtain ⟨ex, D2, W2, rfl, e2, r2, t2⟩ := k2 x2 m2 h2
  exact ⟨fun _ => Wp.room (Nat.sub_le _ _) (Nat.sub_le _ _) (k D2 W2 e2 r2 t2), fun z => absurd ex z⟩
theorem G_1728 (i1 : IX n1 i) (hB : Both n1 D W N mX9_fits mX10_fits [vi (D 1 (w32 (i + 1))), vi (D 1 (w32 (i + 2)))]) (k : Kt n1 bc bs D N i) : Wp 221 bc bs mL_law 1728 (LSt i) [] (D, rho n1 W) LQ := by
  obtain ⟨K1, c1, k1⟩ := hB
  refine sg_L_law_1728 (d := 220) (a0 := 1) (a1 := 4) (a2 := 152) (a3 := 193) (a4 := i) ⟨Or.inr ⟨by decide, rfl⟩, i1 1 (by decide) (by decide), i1 2 (by decide) (by decide), rfl, cI c1 (fun x1 m1 h1 => ?_)⟩
  obtain ⟨D1, W1, rfl, e1, K2, c2, k2⟩ := k1 x1 m1 h1
  rw [← e1] at c2
  refine ⟨Or.inr ⟨by decide, rfl⟩, i1 1 (by decide) (by decide), i1 2 (by decide) (by decide), rfl, cI c2 (fun x2 m2 h2 => ?_)⟩
  obtain ⟨ex, D2, W2, rfl, e2, r2, t2⟩ := k2 x2 m2 h2
  exact ⟨fun _ => Wp.room (Nat.sub_le _ _) (Nat.sub_le _ _) (k D2 W2 e2 r2 t2), fun z => absurd ex z⟩
theorem G_1765 (i1 : IX n1 i) (hB : Both n1 D W N mX9_reads mX10_reads []) (k : Kt n1 bc bs D N i) : Wp 221 bc bs mL_law 1765 (LSt i) [] (D, rho n1 W) LQ := by
  obtain ⟨K1, c1, k1⟩ := hB
  refine sg_L_law_1765 (d := 220) (a0 := 1) (a1 := 4) (a2 := 152) (a3 := 193) (a4 := i) ⟨rfl, cI c1 (fun x1 m1 h1 => ?_)⟩
  obtain ⟨D1, W1, rfl, e1, K2, c2, k2⟩ := k1 x1 m1 h1
  refine ⟨rfl, cI c2 (fun x2 m2 h2 => ?_)⟩
  obtain ⟨ex, D2, W2, rfl, e2, r2, t2⟩ := k2 x2 m2 h2
  exact ⟨fun _ => Wp.room (Nat.sub_le _ _) (Nat.sub_le _ _) (k D2 W2 e2 r2 t2), fun z => absurd ex z⟩
theorem G_1778 (i1 : IX n1 i) (hB : Both n1 D W N mX9_seed mX10_seed [vi (D 1 (w32 (i + 1)))]) (k : Kt n1 bc bs D N i) : Wp 221 bc bs mL_law 1778 (LSt i) [] (D, rho n1 W) LQ := by
  obtain ⟨K1, c1, k1⟩ := hB
  refine sg_L_law_1778 (d := 220) (a0 := 1) (a1 := 4) (a2 := 152) (a3 := 193) (a4 := i) ⟨Or.inr ⟨by decide, rfl⟩, i1 1 (by decide) (by decide), rfl, cI c1 (fun x1 m1 h1 => ?_)⟩
  obtain ⟨D1, W1, rfl, e1, K2, c2, k2⟩ := k1 x1 m1 h1
  rw [← e1] at c2
  refine ⟨Or.inr ⟨by decide, rfl⟩, i1 1 (by decide) (by decide), rfl, cI c2 (fun x2 m2 h2 => ?_)⟩
  obtain ⟨ex, D2, W2, rfl, e2, r2, t2⟩ := k2 x2 m2 h2
  exact ⟨fun _ => Wp.room (Nat.sub_le _ _) (Nat.sub_le _ _) (k D2 W2 e2 r2 t2), fun z => absurd ex z⟩
theorem G_1803 (i1 : IX n1 i) (hB : Both n1 D W N mX9_keep mX10_keep [vi (D 1 (w32 (i + 1)))]) (k : Kt n1 bc bs D N i) : Wp 221 bc bs mL_law 1803 (LSt i) [] (D, rho n1 W) LQ := by
  obtain ⟨K1, c1, k1⟩ := hB
  refine sg_L_law_1803 (d := 220) (a0 := 1) (a1 := 4) (a2 := 152) (a3 := 193) (a4 := i) ⟨Or.inr ⟨by decide, rfl⟩, i1 1 (by decide) (by decide), rfl, cI c1 (fun x1 m1 h1 => ?_)⟩
  obtain ⟨D1, W1, rfl, e1, K2, c2, k2⟩ := k1 x1 m1 h1
  rw [← e1] at c2
  refine ⟨Or.inr ⟨by decide, rfl⟩, i1 1 (by decide) (by decide), rfl, cI c2 (fun x2 m2 h2 => ?_)⟩
  obtain ⟨ex, D2, W2, rfl, e2, r2, t2⟩ := k2 x2 m2 h2
  exact ⟨fun _ => Wp.room (Nat.sub_le _ _) (Nat.sub_le _ _) (k D2 W2 e2 r2 t2), fun z => absurd ex z⟩
theorem G_1828 (i1 : IX n1 i) (hB : Both n1 D W N mX9_again mX10_again [vi (D 1 (w32 (i + 1)))]) (k : Kt n1 bc bs D N i) : Wp 221 bc bs mL_law 1828 (LSt i) [] (D, rho n1 W) LQ := by
  obtain ⟨K1, c1, k1⟩ := hB
  refine sg_L_law_1828 (d := 220) (a0 := 1) (a1 := 4) (a2 := 152) (a3 := 193) (a4 := i) ⟨Or.inr ⟨by decide, rfl⟩, i1 1 (by decide) (by decide), rfl, cI c1 (fun x1 m1 h1 => ?_)⟩
  obtain ⟨D1, W1, rfl, e1, K2, c2, k2⟩ := k1 x1 m1 h1
  rw [← e1] at c2
  refine ⟨Or.inr ⟨by decide, rfl⟩, i1 1 (by decide) (by decide), rfl, cI c2 (fun x2 m2 h2 => ?_)⟩
  obtain ⟨ex, D2, W2, rfl, e2, r2, t2⟩ := k2 x2 m2 h2
  exact ⟨fun _ => Wp.room (Nat.sub_le _ _) (Nat.sub_le _ _) (k D2 W2 e2 r2 t2), fun z => absurd ex z⟩
theorem G_1853 (i1 : IX n1 i) (hB : Both n1 D W N mX9_count mX10_count [vi (D 1 (w32 (i + 1)))]) (k : Kt n1 bc bs D N i) : Wp 221 bc bs mL_law 1853 (LSt i) [] (D, rho n1 W) LQ := by
  obtain ⟨K1, c1, k1⟩ := hB
  refine sg_L_law_1853 (d := 220) (a0 := 1) (a1 := 4) (a2 := 152) (a3 := 193) (a4 := i) ⟨Or.inr ⟨by decide, rfl⟩, i1 1 (by decide) (by decide), rfl, cI c1 (fun x1 m1 h1 => ?_)⟩
  obtain ⟨D1, W1, rfl, e1, K2, c2, k2⟩ := k1 x1 m1 h1
  rw [← e1] at c2
  refine ⟨Or.inr ⟨by decide, rfl⟩, i1 1 (by decide) (by decide), rfl, cI c2 (fun x2 m2 h2 => ?_)⟩
  obtain ⟨ex, D2, W2, rfl, e2, r2, t2⟩ := k2 x2 m2 h2
  exact ⟨fun _ => Wp.room (Nat.sub_le _ _) (Nat.sub_le _ _) (k D2 W2 e2 r2 t2), fun z => absurd ex z⟩
end GCA
