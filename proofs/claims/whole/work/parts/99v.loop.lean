/-! ===== the law's loop ===== -/
section LLP
theorem L_loop {n1 : Nat} (hn1 : n1 ≤ 100000) {s1 : Int → Int} (hs1 : ∀ j, w32 (s1 j) = s1 j) : ∀ (n : Nat) {D : DD} {W : Nat → Nat} {N i : Int} {bc bs : Nat}, R0 D W N → RT D → D 1 = s1 → 0 ≤ i → i ≤ (n1 : Int) → (n1 : Int) - i < 5 * ((n : Int) + 1) → 0 ≤ N → N + n ≤ 1000 → n ≤ bc → 6 * n ≤ bs → Wp 221 bc bs mL_law 23 (LSt i) [] (D, rho n1 W) LQ
  | n, D, W, N, i, bc, bs, h, t, eD, i0, iN, hm, n0, hN, hb1, hb2 => by
    have w5 : w32 ((n1 : Int) - 5) = (n1 : Int) - 5 := w32_id (by omega) (by omega)
    refine sg_L_law_23 (d := 220) (a0 := 1) (a1 := 4) (a2 := 152) (a3 := 193) (a4 := i) ⟨Or.inr ⟨by decide, rfl⟩, fun _ => ⟨1, rfl, rfl⟩, fun c => ?_⟩
    have c : ¬ w32 ((n1 : Int) - 5) < i := c
    rw [w5] at c
    match n, hm, hN, hb1, hb2 with
    | 0, hm, _, _, _ => omega
    | n + 1, hm, hN, hb1, hb2 =>
    have kk : Kt n1 bc bs D N i := fun D2 W2 e2 r2 t2 => by
      refine sg_L_law_1933 (d := 220) (a0 := 1) (a1 := 4) (a2 := 152) (a3 := 193) (a4 := i) (fun v1 ev => ?_)
      have ev : v1 = i + 5 := ev.trans (w32_id (by omega) (by omega))
      subst ev
      exact L_loop hn1 hs1 n r2 t2 (e2.trans eD) (by omega) (by omega) (by omega) (by omega) (by omega) (by omega) (by omega)
    have i1 : IX n1 i := fun k k1 k4 => by
      rw [w32_id (by omega) (by omega)]
      omega
    have hs : ∀ j, w32 (D 1 j) = D 1 j := fun j => by rw [eD]; exact hs1 j
    have rm : 1 ≤ bc ∧ 6 ≤ bs := by omega
    refine ⟨Or.inr ⟨by decide, rfl⟩, ⟨i0, by show i < (n1 : Int); omega⟩, fun _ => Wp.room (Nat.sub_le _ _) (Nat.sub_le _ _) (kk D W rfl (h.up (by omega)) t), fun _ => G_248 i1 (J_cup h t n0 (by omega)) kk, fun _ => G_297 i1 (J_set h t) kk, fun _ => G_334 i1 (J_wall h t) kk, fun _ => G_371 i1 (J_sheet h t) kk, fun _ => G_432 i1 (J_fresh h t n0) kk, fun _ => G_445 i1 (J_tilt h t) kk, fun _ => G_482 i1 (J_tick h t (by omega)) kk, fun _ => G_519 h t i1 rm kk, fun _ => G_599 h t i1 rm kk, fun _ => G_667 i1 (J_sign h t (hs _)) kk, fun _ => G_692 i1 (J_end h t) kk, fun _ => G_717 i1 (J_walk h t) kk, fun _ => G_742 i1 (J_law h t) kk, fun _ => G_767 h t i1 rm kk, fun _ => G_835 i1 (J_steps h t) kk, fun _ => G_860 i1 (J_go h t n0 (by omega)) kk, fun _ => G_909 i1 (J_swing h t) kk, fun _ => G_934 i1 (J_dies h t) kk, fun _ => G_971 i1 (J_worst h t) kk, fun _ => G_996 i1 (J_would h t) kk, fun _ => G_1033 i1 (J_odds h t) kk, fun _ => G_1070 i1 (J_full h t) kk, fun _ => G_1095 i1 (J_leads h t) kk, fun _ => G_1132 i1 (J_plan h t) kk, fun _ => G_1157 i1 (J_helps h t) kk, fun _ => G_1194 i1 (J_layers h t) kk, fun _ => G_1219 i1 (J_off h t) kk, fun _ => G_1268 i1 (J_few h t) kk, fun _ => G_1305 i1 (J_best h t) kk, fun _ => G_1342 i1 (J_lid h t) kk, fun _ => G_1379 i1 (J_form h t) kk, fun _ => G_1404 i1 (J_turn h t) kk, fun _ => G_1441 i1 (J_door h t) kk, fun _ => G_1466 i1 (J_two h t) kk, fun _ => G_1491 i1 (J_stop h t) kk, fun _ => G_1516 i1 (J_pause h t) kk, fun _ => G_1553 h t i1 kk, fun _ => G_1579 i1 (J_spot h t) kk, fun _ => G_1604 i1 (J_wipe h t) kk, fun _ => G_1617 i1 (J_far h t) kk, fun _ => G_1654 i1 (J_who h t) kk, fun _ => G_1667 i1 (J_film h t) kk, fun _ => G_1728 i1 (J_fits h t) kk, fun _ => G_1765 i1 (J_reads h t) kk, fun _ => G_1778 i1 (J_seed h t) kk, fun _ => G_1803 i1 (J_keep h t n0) kk, fun _ => G_1828 i1 (J_again h t) kk, fun _ => G_1853 i1 (J_count h t) kk, fun _ => G_1878 h t i1 rm kk⟩
end LLP
