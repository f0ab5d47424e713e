/-! ===== arrays ===== -/
theorem i_ix {x : Int} (hx : r32 x) (h0 : 0 ≤ x) : (((Int32.ofInt x).toNatClampNeg : Nat) : Int) = x := by
  rw [i_clamp hx]
  omega
theorem ent_i {G : GT} {μ : Mem} {a k : Nat} (h : mK μ a = k) (h1 : 20 ≤ k) (h2 : k ≠ 21) (h3 : k < 25) : ent G μ a = .inl (gcy G (k - 20), mN μ a, .inl (fun j => Int32.ofInt (mD μ a j))) := by
  unfold ent
  rw [h, if_neg (by omega), if_neg h2, if_pos h3]
theorem ent_l {G : GT} {μ : Mem} {a : Nat} (h : mK μ a = 21) : ent G μ a = .inl (gcy G 1, mN μ a, .inr (.inl (fun j => Int64.ofInt (mD μ a j)))) := by
  unfold ent
  rw [h, if_neg (by omega), if_pos rfl]
theorem ent_r {G : GT} {μ : Mem} {a k : Nat} (h : mK μ a = k) (h1 : 25 ≤ k) : ent G μ a = .inl (gcy G (k - 20), mN μ a, .inr (.inr (.inr (.inr (fun j => if mR μ a j = 0 then none else some (gad G (mR μ a j))))))) := by
  unfold ent
  rw [h, if_neg (by omega), if_neg (by omega), if_neg (by omega)]
theorem rf_V (G : GT) (r : Nat) : va_rf (if r = 0 then none else some (gad G r)) = toV (gad G) (vr r) := by
  unfold toV
  by_cases e : r = 0
  · rw [if_pos e]; dsimp only; rw [if_pos e]; rfl
  · rw [if_neg e]; dsimp only; rw [if_neg e]; rfl
theorem nar_c {x : Int} : narrow .char (.int (Int32.ofInt x)) = .int (Int32.ofInt (x % 65536)) := by
  show Value.int ((Int32.ofInt x).toUInt32.toUInt16.toUInt32.toInt32) = _
  rw [← i_2c, UInt32.toUInt32_toUInt16]
theorem nar_b {x : Int} (h : r32 x) : narrow .byte (.int (Int32.ofInt x)) = .int (Int32.ofInt (w8 x)) := by
  show Value.int ((Int32.ofInt x).toInt8.toInt32) = _
  rw [i_2b h]
theorem nar_z {x : Int} (h : x = 0 ∨ x = 1) : narrow .boolean (.int (Int32.ofInt x)) = .int (Int32.ofInt x) := by
  rcases h with rfl | rfl <;> decide +kernel
theorem cell_i {cA : ClassId} {μ : Mem} {a n : Nat} {i y : Int} {k : Nat} (hk : (k : Int) = i) : (vp_cell cA (n, .inl (fun j => Int32.ofInt (mD μ a j)))).setSlot k (.int (Int32.ofInt y)) = vp_cell cA (n, .inl (fun j => Int32.ofInt (mD (sD μ a i y) a j))) := by
  rw [vp_cell_i, vp_cell_i, arrV_store]
  congr 1
  funext j
  unfold updV
  by_cases e : j = k
  · rw [if_pos e, sD_D, if_pos ⟨rfl, by rw [e]; exact hk⟩]
  · rw [if_neg e, sD_D, if_neg (fun z => e (by omega))]
theorem cell_l {cA : ClassId} {μ : Mem} {a n : Nat} {i y : Int} {k : Nat} (hk : (k : Int) = i) : (vp_cell cA (n, .inr (.inl (fun j => Int64.ofInt (mD μ a j))))).setSlot k (.long (Int64.ofInt y)) = vp_cell cA (n, .inr (.inl (fun j => Int64.ofInt (mD (sD μ a i y) a j)))) := by
  rw [vp_cell_l, vp_cell_l, arrV_store]
  congr 1
  funext j
  unfold updV
  by_cases e : j = k
  · rw [if_pos e, sD_D, if_pos ⟨rfl, by rw [e]; exact hk⟩]
  · rw [if_neg e, sD_D, if_neg (fun z => e (by omega))]
theorem cell_r {G : GT} {cA : ClassId} {μ : Mem} {a n b : Nat} {i : Int} {k : Nat} (hk : (k : Int) = i) (hb : b ≠ 0) : (vp_cell cA (n, .inr (.inr (.inr (.inr (fun j => if mR μ a j = 0 then none else some (gad G (mR μ a j)))))))).setSlot k (.ref (gad G b)) = vp_cell cA (n, .inr (.inr (.inr (.inr (fun j => if mR (sR μ a i b) a j = 0 then none else some (gad G (mR (sR μ a i b) a j))))))) := by
  rw [vp_cell_q, vp_cell_q, arrV_store]
  congr 1
  funext j
  unfold updV
  by_cases e : j = k
  · have e1 : mR (sR μ a i b) a j = b := by rw [sR_R, if_pos ⟨rfl, by rw [e]; exact hk⟩]
    rw [if_pos e, e1, if_neg hb]
    rfl
  · have e1 : mR (sR μ a i b) a j = mR μ a j := by rw [sR_R, if_neg (fun z => e (by omega))]
    rw [if_neg e, e1]
section ARR
variable {d bc bs : Nat} {M : MI} {pc : Nat} {ls : List (Option AV)} {st : List AV} {μ : Mem} {Q : Option (Option AV) → Mem → Prop}

theorem st_iaload {a : Nat} {i : Int} (hd : decode (mcd M) pc = .ok (.iaload, 1)) (hk : mK μ a = 20) (h0 : 0 ≤ i) (h1 : i < mN μ a) (k : Wp d bc bs M (pc + 1) ls (vi (mD μ a i) :: st) μ Q) : Wp d bc bs M pc ls (vi i :: vr a :: st) μ Q := by
  refine Wp.step (fun {p l e R s m args below meth c H locs cells slots Qf G lm} hC hR hL ho w => ?_) (fun {G s H locs lm} hR hL h => oks_i ((hR.2.2.2.2.1 a i).2 (by omega)) (oks_t (oks_t h))) k
  have z0 : mK μ a ≠ 0 := by omega
  have z4 : mK μ a ≠ 40 := by omega
  rw [List.map_cons, List.map_cons, toV_ref (hR.1 a z0 z4).1]
  refine va_iald hC.1 hC.2.1 hC.2.2.2.2.2.1.1 (hR.one z0 z4) 0 0 (cA := gcy G 0) (n := mN μ a) (f := fun j => Int32.ofInt (mD μ a j)) (by rw [ent_i hk (by omega) (by omega) (by omega)]; rfl) rfl (i_in (oks_h ho) h0 h1) hd ?_
  rw [i_ix (oks_h ho) h0]
  exact w

theorem st_baload {a : Nat} {i : Int} (hd : decode (mcd M) pc = .ok (.baload, 1)) (hk : mK μ a = 22) (h0 : 0 ≤ i) (h1 : i < mN μ a) (k : Wp d bc bs M (pc + 1) ls (vi (mD μ a i) :: st) μ Q) : Wp d bc bs M pc ls (vi i :: vr a :: st) μ Q := by
  refine Wp.step (fun {p l e R s m args below meth c H locs cells slots Qf G lm} hC hR hL ho w => ?_) (fun {G s H locs lm} hR hL h => oks_i ((hR.2.2.2.2.1 a i).2 (by omega)) (oks_t (oks_t h))) k
  have z0 : mK μ a ≠ 0 := by omega
  have z4 : mK μ a ≠ 40 := by omega
  rw [List.map_cons, List.map_cons, toV_ref (hR.1 a z0 z4).1]
  refine va_bald hC.1 hC.2.1 hC.2.2.2.2.2.1.1 (hR.one z0 z4) 0 2 (cA := gcy G 2) (n := mN μ a) (f := fun j => Int32.ofInt (mD μ a j)) (by rw [ent_i hk (by omega) (by omega) (by omega)]; rfl) rfl (i_in (oks_h ho) h0 h1) hd ?_
  rw [i_ix (oks_h ho) h0]
  exact w

theorem st_zaload {a : Nat} {i : Int} (hd : decode (mcd M) pc = .ok (.baload, 1)) (hk : mK μ a = 24) (h0 : 0 ≤ i) (h1 : i < mN μ a) (k : Wp d bc bs M (pc + 1) ls (vi (mD μ a i) :: st) μ Q) : Wp d bc bs M pc ls (vi i :: vr a :: st) μ Q := by
  refine Wp.step (fun {p l e R s m args below meth c H locs cells slots Qf G lm} hC hR hL ho w => ?_) (fun {G s H locs lm} hR hL h => oks_i ((hR.2.2.2.2.1 a i).2 (by omega)) (oks_t (oks_t h))) k
  have z0 : mK μ a ≠ 0 := by omega
  have z4 : mK μ a ≠ 40 := by omega
  rw [List.map_cons, List.map_cons, toV_ref (hR.1 a z0 z4).1]
  refine va_zald hC.1 hC.2.1 hC.2.2.2.2.2.1.1 (hR.one z0 z4) 0 4 (cA := gcy G 4) (n := mN μ a) (f := fun j => Int32.ofInt (mD μ a j)) (by rw [ent_i hk (by omega) (by omega) (by omega)]; rfl) rfl (i_in (oks_h ho) h0 h1) hd ?_
  rw [i_ix (oks_h ho) h0]
  exact w

theorem st_caload {a : Nat} {i : Int} (hd : decode (mcd M) pc = .ok (.caload, 1)) (hk : mK μ a = 23) (h0 : 0 ≤ i) (h1 : i < mN μ a) (k : Wp d bc bs M (pc + 1) ls (vi (mD μ a i) :: st) μ Q) : Wp d bc bs M pc ls (vi i :: vr a :: st) μ Q := by
  refine Wp.step (fun {p l e R s m args below meth c H locs cells slots Qf G lm} hC hR hL ho w => ?_) (fun {G s H locs lm} hR hL h => oks_i ((hR.2.2.2.2.1 a i).2 (by omega)) (oks_t (oks_t h))) k
  have z0 : mK μ a ≠ 0 := by omega
  have z4 : mK μ a ≠ 40 := by omega
  rw [List.map_cons, List.map_cons, toV_ref (hR.1 a z0 z4).1]
  refine va_cald hC.1 hC.2.1 hC.2.2.2.2.2.1.1 (hR.one z0 z4) 0 3 (cA := gcy G 3) (n := mN μ a) (f := fun j => Int32.ofInt (mD μ a j)) (by rw [ent_i hk (by omega) (by omega) (by omega)]; rfl) rfl (i_in (oks_h ho) h0 h1) hd ?_
  rw [i_ix (oks_h ho) h0]
  exact w

theorem st_laload {a : Nat} {i : Int} (hd : decode (mcd M) pc = .ok (.laload, 1)) (hk : mK μ a = 21) (h0 : 0 ≤ i) (h1 : i < mN μ a) (k : Wp d bc bs M (pc + 1) ls (vl (mD μ a i) :: st) μ Q) : Wp d bc bs M pc ls (vi i :: vr a :: st) μ Q := by
  refine Wp.step (fun {p l e R s m args below meth c H locs cells slots Qf G lm} hC hR hL ho w => ?_) (fun {G s H locs lm} hR hL h => oks_l ((hR.2.2.2.2.1 a i).1 hk) (oks_t (oks_t h))) k
  have z0 : mK μ a ≠ 0 := by omega
  have z4 : mK μ a ≠ 40 := by omega
  rw [List.map_cons, List.map_cons, toV_ref (hR.1 a z0 z4).1]
  refine va_lald hC.1 hC.2.1 hC.2.2.2.2.2.1.1 (hR.one z0 z4) 0 1 (cA := gcy G 1) (n := mN μ a) (f := fun j => Int64.ofInt (mD μ a j)) (by rw [ent_l hk]; rfl) rfl (i_in (oks_h ho) h0 h1) hd ?_
  rw [i_ix (oks_h ho) h0]
  exact w
/-- the script, a static array: never written -/
theorem st_xaload {a : Nat} {i : Int} (hd : decode (mcd M) pc = .ok (.iaload, 1)) (ha : a ≠ 0) (hk : mK μ a = 40) (h0 : 0 ≤ i) (h1 : i < mN μ a) (k : Wp d bc bs M (pc + 1) ls (vi (mD μ a i) :: st) μ Q) : Wp d bc bs M pc ls (vi i :: vr a :: st) μ Q := by
  refine Wp.step (fun {p l e R s m args below meth c H locs cells slots Qf G lm} hC hR hL ho w => ?_) (fun {G s H locs lm} hR hL h => oks_i ((hR.2.2.2.2.1 a i).2 (by omega)) (oks_t (oks_t h))) k
  rw [List.map_cons, List.map_cons, show toV (gad G) (vr a) = .ref (gad G a) from if_neg ha]
  obtain ⟨-, scr, g1, g2, g3, g4, g5⟩ := hR.2.1 a hk
  have hi := i_in (oks_h ho) h0 h1
  have hlt : (Int32.ofInt i).toNatClampNeg < mN μ a := Nat.not_le.mp fun q => hi (Or.inr q)
  refine W.iald (v := .int (Int32.ofInt (mD μ a i))) hC.1 hC.2.1 g1 g2 g3 (by rw [g4]; exact hi) (by rw [g5 _ hlt]; dsimp only; rw [i_ix (oks_h ho) h0]) rfl rfl hd w
theorem st_xlen {a : Nat} (hd : decode (mcd M) pc = .ok (.arraylength, 1)) (ha : a ≠ 0) (hk : mK μ a = 40) (k : Wp d bc bs M (pc + 1) ls (vi (mN μ a) :: st) μ Q) : Wp d bc bs M pc ls (vr a :: st) μ Q := by
  refine Wp.step (fun {p l e R s m args below meth c H locs cells slots Qf G lm} hC hR hL ho w => ?_) (fun {G s H locs lm} hR hL h => oks_i (by have := hR.2.2.2.2.2 a; unfold r32; omega) (oks_t h)) k
  rw [List.map_cons, show toV (gad G) (vr a) = .ref (gad G a) from if_neg ha]
  obtain ⟨-, scr, g1, g2, g3, g4, g5⟩ := hR.2.1 a hk
  exact W.alen (n := Int32.ofInt (mN μ a)) hC.1 hC.2.1 g1 g2 (by rw [g4]; exact (Int32.ofInt_eq_ofNat).symm) rfl rfl hd w
theorem st_alen {a : Nat} (hd : decode (mcd M) pc = .ok (.arraylength, 1)) (h1 : 20 ≤ mK μ a) (h2 : mK μ a ≤ 28) (k : Wp d bc bs M (pc + 1) ls (vi (mN μ a) :: st) μ Q) : Wp d bc bs M pc ls (vr a :: st) μ Q := by
  refine Wp.step (fun {p l e R s m args below meth c H locs cells slots Qf G lm} hC hR hL ho w => ?_) (fun {G s H locs lm} hR hL h => oks_i (by have := hR.2.2.2.2.2 a; unfold r32; omega) (oks_t h)) k
  have z0 : mK μ a ≠ 0 := by omega
  have z4 : mK μ a ≠ 40 := by omega
  rw [List.map_cons, toV_ref (hR.1 a z0 z4).1]
  obtain ⟨x, hx⟩ : ∃ x : vp_A, ent G μ a = .inl (gcy G (mK μ a - 20), x) ∧ x.1 = mN μ a := by
    unfold ent
    rw [if_neg (by omega)]
    by_cases e1 : mK μ a = 21
    · rw [if_pos e1, e1]; exact ⟨_, rfl, rfl⟩
    · rw [if_neg e1]
      by_cases e2 : mK μ a < 25
      · rw [if_pos e2]; exact ⟨_, rfl, rfl⟩
      · rw [if_neg e2]; exact ⟨_, rfl, rfl⟩
  obtain ⟨ty, hty⟩ : ∃ ty, (gtys G)[mK μ a - 20]? = some (gcy G (mK μ a - 20), ty) := by
    rcases (by omega : mK μ a = 20 ∨ mK μ a = 21 ∨ mK μ a = 22 ∨ mK μ a = 23 ∨ mK μ a = 24 ∨ mK μ a = 25 ∨ mK μ a = 26 ∨ mK μ a = 27 ∨ mK μ a = 28) with e | e | e | e | e | e | e | e | e <;> rw [e] <;> exact ⟨_, rfl⟩
  exact va_alen hC.1 hC.2.1 hC.2.2.2.2.2.1.1 (hR.one z0 z4) 0 (mK μ a - 20) (cA := gcy G (mK μ a - 20)) (x := x) (by rw [hx.1]; rfl) hty (v := Int32.ofInt (mN μ a)) (by rw [hx.2]; exact (Int32.ofInt_eq_ofNat).symm) hd w
theorem st_aaload {a t : Nat} {C : String} {i : Int} (hd : decode (mcd M) pc = .ok (.aaload, 1)) (hk : mK μ a = 20 + t) (ht : ∀ G : GT, (gtys G)[t]? = some (gcy G t, .object C)) (h5 : 5 ≤ t) (h7 : t ≤ 7) (h0 : 0 ≤ i) (h1 : i < mN μ a) (k : Wp d bc bs M (pc + 1) ls (vr (mR μ a i) :: st) μ Q) : Wp d bc bs M pc ls (vi i :: vr a :: st) μ Q := by
  refine Wp.step (fun {p l e R s m args below meth c H locs cells slots Qf G lm} hC hR hL ho w => ?_) (fun {G s H locs lm} hR hL h => oks_r (oks_t (oks_t h))) k
  have z0 : mK μ a ≠ 0 := by omega
  have z4 : mK μ a ≠ 40 := by omega
  rw [List.map_cons, List.map_cons, toV_ref (hR.1 a z0 z4).1]
  refine va_aldq hC.1 hC.2.1 hC.2.2.2.2.2.1.1 (hR.one z0 z4) 0 t (cA := gcy G t) (C := C) (n := mN μ a) (f := fun j => if mR μ a j = 0 then none else some (gad G (mR μ a j))) (by rw [ent_r hk (by omega), show 20 + t - 20 = t by omega]; rfl) (ht G) (i_in (oks_h ho) h0 h1) hd ?_
  rw [i_ix (oks_h ho) h0, rf_V]
  exact w
/-- a row of an array of arrays -/
theorem st_aaload2 {a : Nat} {i : Int} (hd : decode (mcd M) pc = .ok (.aaload, 1)) (hk : mK μ a = 28) (h0 : 0 ≤ i) (h1 : i < mN μ a) (k : Wp d bc bs M (pc + 1) ls (vr (mR μ a i) :: st) μ Q) : Wp d bc bs M pc ls (vi i :: vr a :: st) μ Q := by
  refine Wp.step (fun {p l e R s m args below meth c H locs cells slots Qf G lm} hC hR hL ho w => ?_) (fun {G s H locs lm} hR hL h => oks_r (oks_t (oks_t h))) k
  have z0 : mK μ a ≠ 0 := by omega
  have z4 : mK μ a ≠ 40 := by omega
  rw [List.map_cons, List.map_cons, toV_ref (hR.1 a z0 z4).1]
  have hi := i_in (oks_h ho) h0 h1
  have hlt : (Int32.ofInt i).toNatClampNeg < mN μ a := Nat.not_le.mp fun q => hi (Or.inr q)
  have hat := (hR.1 a z0 z4).2
  rw [ent_r hk (by omega)] at hat
  refine W.aald (v := toV (gad G) (vr (mR μ a i))) (ty := .array .byte) hC.1 hC.2.1 hat ((hC.2.2.2.2.2.1.1.2 8 _ rfl).1 (mN μ a) (fun j => va_rf (if mR μ a j = 0 then none else some (gad G (mR μ a j))))) rfl (fun q => by cases q) (by show ¬ (_ ∨ (arrV _ _ _).slots.size ≤ _); rw [arrV_size]; exact hi) (by show (arrV _ _ _).slots[_]? = _; rw [arrV_read _ _ hlt]; dsimp only; rw [i_ix (oks_h ho) h0, rf_V]) rfl rfl hd w

theorem st_iastore {a : Nat} {i x : Int} (hd : decode (mcd M) pc = .ok (.iastore, 1)) (hk : mK μ a = 20) (h0 : 0 ≤ i) (h1 : i < mN μ a) (k : Wp d bc bs M (pc + 1) ls st (sD μ a i x) Q) : Wp d bc bs M pc ls (vi x :: vi i :: vr a :: st) μ Q := by
  refine Wp.mem (fun {p l e R s m args below meth c H locs cells slots Qf G lm} hC hR hL ho w => ?_) (fun h => oks_t (oks_t (oks_t h))) k
  have z0 : mK μ a ≠ 0 := by omega
  have z4 : mK μ a ≠ 40 := by omega
  have z21 : mK μ a ≠ 21 := by omega
  have hx := oks_h ho
  have hi := oks_h (oks_t ho)
  have hin := i_in hi h0 h1
  have hat := (hR.1 a z0 z4).2
  rw [ent_i hk (by omega) (by omega) (by omega)] at hat
  rw [List.map_cons, List.map_cons, List.map_cons, toV_ref (hR.1 a z0 z4).1]
  refine W.iast hC.1 hC.2.1 hat ((hC.2.2.2.2.2.1.1.2 0 _ rfl).1 (mN μ a) (fun j => .int (Int32.ofInt (mD μ a j)))) (fun q => by cases q) (by show ¬ (_ ∨ (arrV _ _ _).slots.size ≤ _); rw [arrV_size]; exact hin) rfl rfl hd fun H1 e1 e2 e3 => w H1 _ ?_
  refine hR.upd z0 z4 rfl rfl rfl (fun o z => sD_ne z) (fun o z => rfl) ?_ e2 e3 (fun j => ⟨fun z => absurd z z21, fun _ => ?_⟩)
  · rw [ent_i (k := 20) (by rw [sD_K]; exact hk) (by omega) (by omega) (by omega)]
    show H1[gad G a]? = some (vp_cell _ _)
    rw [e1, cell_i (i := i) (i_ix hi h0)]
    rfl
  · rw [sD_D]
    split
    · exact hx
    · exact (hR.2.2.2.2.1 a j).2 z21

theorem st_bastore {a : Nat} {i x : Int} (hd : decode (mcd M) pc = .ok (.bastore, 1)) (hk : mK μ a = 22) (h0 : 0 ≤ i) (h1 : i < mN μ a) (k : Wp d bc bs M (pc + 1) ls st (sD μ a i (w8 x)) Q) : Wp d bc bs M pc ls (vi x :: vi i :: vr a :: st) μ Q := by
  refine Wp.mem (fun {p l e R s m args below meth c H locs cells slots Qf G lm} hC hR hL ho w => ?_) (fun h => oks_t (oks_t (oks_t h))) k
  have z0 : mK μ a ≠ 0 := by omega
  have z4 : mK μ a ≠ 40 := by omega
  have z21 : mK μ a ≠ 21 := by omega
  have hx := oks_h ho
  have hi := oks_h (oks_t ho)
  have hin := i_in hi h0 h1
  have hat := (hR.1 a z0 z4).2
  rw [ent_i hk (by omega) (by omega) (by omega)] at hat
  rw [List.map_cons, List.map_cons, List.map_cons, toV_ref (hR.1 a z0 z4).1]
  refine W.bast hC.1 hC.2.1 hat ((hC.2.2.2.2.2.1.1.2 2 _ rfl).1 (mN μ a) (fun j => .int (Int32.ofInt (mD μ a j)))) (fun q => by cases q) (by show ¬ (_ ∨ (arrV _ _ _).slots.size ≤ _); rw [arrV_size]; exact hin) rfl rfl hd fun H1 e1 e2 e3 => w H1 _ ?_
  refine hR.upd z0 z4 rfl rfl rfl (fun o z => sD_ne z) (fun o z => rfl) ?_ e2 e3 (fun j => ⟨fun z => absurd z z21, fun _ => ?_⟩)
  · rw [ent_i (k := 22) (by rw [sD_K]; exact hk) (by omega) (by omega) (by omega)]
    show H1[gad G a]? = some (vp_cell _ _)
    rw [e1, nar_b hx, cell_i (i := i) (i_ix hi h0)]
    rfl
  · rw [sD_D]
    split
    · exact w8_r x
    · exact (hR.2.2.2.2.1 a j).2 z21

theorem st_zastore {a : Nat} {i x : Int} (hd : decode (mcd M) pc = .ok (.bastore, 1)) (hk : mK μ a = 24) (h0 : 0 ≤ i) (h1 : i < mN μ a) (hz : x = 0 ∨ x = 1) (k : Wp d bc bs M (pc + 1) ls st (sD μ a i x) Q) : Wp d bc bs M pc ls (vi x :: vi i :: vr a :: st) μ Q := by
  refine Wp.mem (fun {p l e R s m args below meth c H locs cells slots Qf G lm} hC hR hL ho w => ?_) (fun h => oks_t (oks_t (oks_t h))) k
  have z0 : mK μ a ≠ 0 := by omega
  have z4 : mK μ a ≠ 40 := by omega
  have z21 : mK μ a ≠ 21 := by omega
  have hx := oks_h ho
  have hi := oks_h (oks_t ho)
  have hin := i_in hi h0 h1
  have hat := (hR.1 a z0 z4).2
  rw [ent_i hk (by omega) (by omega) (by omega)] at hat
  rw [List.map_cons, List.map_cons, List.map_cons, toV_ref (hR.1 a z0 z4).1]
  refine W.zast hC.1 hC.2.1 hat ((hC.2.2.2.2.2.1.1.2 4 _ rfl).1 (mN μ a) (fun j => .int (Int32.ofInt (mD μ a j)))) (fun q => by cases q) (by show ¬ (_ ∨ (arrV _ _ _).slots.size ≤ _); rw [arrV_size]; exact hin) rfl rfl hd fun H1 e1 e2 e3 => w H1 _ ?_
  refine hR.upd z0 z4 rfl rfl rfl (fun o z => sD_ne z) (fun o z => rfl) ?_ e2 e3 (fun j => ⟨fun z => absurd z z21, fun _ => ?_⟩)
  · rw [ent_i (k := 24) (by rw [sD_K]; exact hk) (by omega) (by omega) (by omega)]
    show H1[gad G a]? = some (vp_cell _ _)
    rw [e1, nar_z hz, cell_i (i := i) (i_ix hi h0)]
    rfl
  · rw [sD_D]
    split
    · exact hx
    · exact (hR.2.2.2.2.1 a j).2 z21

theorem st_castore {a : Nat} {i x : Int} (hd : decode (mcd M) pc = .ok (.castore, 1)) (hk : mK μ a = 23) (h0 : 0 ≤ i) (h1 : i < mN μ a) (k : Wp d bc bs M (pc + 1) ls st (sD μ a i (x % 65536)) Q) : Wp d bc bs M pc ls (vi x :: vi i :: vr a :: st) μ Q := by
  refine Wp.mem (fun {p l e R s m args below meth c H locs cells slots Qf G lm} hC hR hL ho w => ?_) (fun h => oks_t (oks_t (oks_t h))) k
  have z0 : mK μ a ≠ 0 := by omega
  have z4 : mK μ a ≠ 40 := by omega
  have z21 : mK μ a ≠ 21 := by omega
  have hx := oks_h ho
  have hi := oks_h (oks_t ho)
  have hin := i_in hi h0 h1
  have hat := (hR.1 a z0 z4).2
  rw [ent_i hk (by omega) (by omega) (by omega)] at hat
  rw [List.map_cons, List.map_cons, List.map_cons, toV_ref (hR.1 a z0 z4).1]
  refine W.cast hC.1 hC.2.1 hat ((hC.2.2.2.2.2.1.1.2 3 _ rfl).1 (mN μ a) (fun j => .int (Int32.ofInt (mD μ a j)))) (fun q => by cases q) (by show ¬ (_ ∨ (arrV _ _ _).slots.size ≤ _); rw [arrV_size]; exact hin) rfl rfl hd fun H1 e1 e2 e3 => w H1 _ ?_
  refine hR.upd z0 z4 rfl rfl rfl (fun o z => sD_ne z) (fun o z => rfl) ?_ e2 e3 (fun j => ⟨fun z => absurd z z21, fun _ => ?_⟩)
  · rw [ent_i (k := 23) (by rw [sD_K]; exact hk) (by omega) (by omega) (by omega)]
    show H1[gad G a]? = some (vp_cell _ _)
    rw [e1, nar_c, cell_i (i := i) (i_ix hi h0)]
    rfl
  · rw [sD_D]
    split
    · exact (by unfold r32; omega)
    · exact (hR.2.2.2.2.1 a j).2 z21

theorem st_lastore {a : Nat} {i x : Int} (hd : decode (mcd M) pc = .ok (.lastore, 1)) (hk : mK μ a = 21) (h0 : 0 ≤ i) (h1 : i < mN μ a) (k : Wp d bc bs M (pc + 1) ls st (sD μ a i x) Q) : Wp d bc bs M pc ls (vl x :: vi i :: vr a :: st) μ Q := by
  refine Wp.mem (fun {p l e R s m args below meth c H locs cells slots Qf G lm} hC hR hL ho w => ?_) (fun h => oks_t (oks_t (oks_t h))) k
  have z0 : mK μ a ≠ 0 := by omega
  have z4 : mK μ a ≠ 40 := by omega
  have hx := oks_h ho
  have hi := oks_h (oks_t ho)
  have hin := i_in hi h0 h1
  have hat := (hR.1 a z0 z4).2
  rw [ent_l hk] at hat
  rw [List.map_cons, List.map_cons, List.map_cons, toV_ref (hR.1 a z0 z4).1]
  refine W.last hC.1 hC.2.1 hat ((hC.2.2.2.2.2.1.1.2 1 _ rfl).1 (mN μ a) (fun j => .long (Int64.ofInt (mD μ a j)))) (fun q => by cases q) (by show ¬ (_ ∨ (arrV _ _ _).slots.size ≤ _); rw [arrV_size]; exact hin) rfl rfl hd fun H1 e1 e2 e3 => w H1 _ ?_
  refine hR.upd z0 z4 rfl rfl rfl (fun o z => sD_ne z) (fun o z => rfl) ?_ e2 e3 (fun j => ⟨fun _ => ?_, fun z => absurd hk z⟩)
  · rw [ent_l (by rw [sD_K]; exact hk)]
    show H1[gad G a]? = some (vp_cell _ _)
    rw [e1, cell_l (i := i) (i_ix hi h0)]
    rfl
  · rw [sD_D]
    split
    · exact hx
    · exact (hR.2.2.2.2.1 a j).1 hk
/-- kinds of objects that an array of references may hold -/
theorem st_aastore {a b t kd : Nat} {i : Int} (hd : decode (mcd M) pc = .ok (.aastore, 1)) (hk : mK μ a = 20 + t) (hb : mK μ b = kd) (h1k : 1 ≤ kd) (h2k : kd ≤ 11) (ht : ∀ G : GT, (gtys G)[t]? = some (gcy G t, .object (clC kd))) (h5 : 5 ≤ t) (h7 : t ≤ 7) (h0 : 0 ≤ i) (h1 : i < mN μ a) (k : Wp d bc bs M (pc + 1) ls st (sR μ a i b) Q) : Wp d bc bs M pc ls (vr b :: vi i :: vr a :: st) μ Q := by
  refine Wp.mem (fun {p l e R s m args below meth c H locs cells slots Qf G lm} hC hR hL ho w => ?_) (fun h => oks_t (oks_t (oks_t h))) k
  have z0 : mK μ a ≠ 0 := by omega
  have z4 : mK μ a ≠ 40 := by omega
  have z21 : mK μ a ≠ 21 := by omega
  have y0 : mK μ b ≠ 0 := by omega
  have y4 : mK μ b ≠ 40 := by omega
  have hi := oks_h (oks_t ho)
  have hin := i_in hi h0 h1
  have hlt : (Int32.ofInt i).toNatClampNeg < mN μ a := Nat.not_le.mp fun q => hin (Or.inr q)
  have h00 : ¬ Int32.ofInt i < 0 := fun q => hin (Or.inl q)
  have hat := (hR.1 a z0 z4).2
  rw [ent_r hk (by omega), show 20 + t - 20 = t by omega] at hat
  have hb4 := (hR.1 b y0 y4).1
  rw [List.map_cons, List.map_cons, List.map_cons, toV_ref (hR.1 a z0 z4).1, toV_ref hb4]
  have hK := hC.2.2.2.2.2.1.1
  have hc := cl_cl kd h1k h2k
  have hatb := (hR.1 b y0 y4).2
  rw [ent_obj hb h2k] at hatb
  obtain ⟨r', hr', cellV, g1, g2, g3, -⟩ := hatb
  have hcls := (hK.1 (kd - 1) _ hc).2
  obtain ⟨kA, comp, k1, k2, k3, -⟩ := (hK.2 t _ (ht G)).2
  have hcomp : comp = (gD G).1 (kd - 1) := Option.some.inj (k3.symm.trans hcls.1)
  subst hcomp
  obtain ⟨kC, hkC, -⟩ := hcls.2
  refine W.aast hC.1 hC.2.1 hat (fun q h => by cases h) (fun h => by cases h) k1 k2 rfl hkC ⟨h00, by show _ < (arrV _ _ _).slots.size; rw [arrV_size]; exact hlt⟩ g1 (fun q h => by rw [g3] at h; cases h) (by rw [g2]; exact hkC) (by rw [g2]; exact va_assign hcls) rfl rfl hd fun H1 e1 e2 e3 => w H1 _ ?_
  refine hR.upd z0 z4 rfl rfl rfl (fun o z => rfl) (fun o z => sR_ne z) ?_ e2 e3 (fun j => ⟨fun z => absurd z z21, fun _ => (hR.2.2.2.2.1 a j).2 z21⟩)
  rw [ent_r (k := 20 + t) (by rw [sR_K]; exact hk) (by omega), show 20 + t - 20 = t by omega]
  show H1[gad G a]? = some (vp_cell _ _)
  rw [e1, cell_r (G := G) (i := i) (i_ix hi h0) (by omega)]
  rfl
end ARR
