/-! ===== walk(i), law(i), both sides ===== -/
section JWL
variable {n1 : Nat} {D D' : DD} {W W' : Nat → Nat} {N : Int} {a v : Int} {t t' : Int → Int} {en : Int}
theorem laws_fr5 {F : Nat → Int → Prop} (f : Fr F D D') (hl : ∀ i, 5 ≤ i → i < 9 → lawId (W i)) (hW : ∀ i, 5 ≤ i → i < 9 → W' i = W i) (n : Lfree F) : lawsv D' W' = lawsv D W := by
  have e : lawsv D' W' = lawsv D' W := by
    funext l
    unfold lawsv tlaw
    by_cases g : 0 ≤ l ∧ l ≤ 2
    · rw [hW (5 + l.toNat) (by omega) (by omega)]
    · rw [if_neg (fun z => g z.1), if_neg (fun z => g z.1)]
  rw [e]
  exact laws_fr f hl (fun _ _ => rfl) n
/-- numbers i and j change places -/
theorem swap_is {p q : Nat} {i : Nat} (hpq : p ≠ q) : uW (uW W p (W q)) q (W p) i = W (if i = p then q else if i = q then p else i) := by
  by_cases h : i = q
  · rw [h, uW_at, if_neg (Ne.symm hpq), if_pos rfl]
  · rw [uW_ne h]
    by_cases h2 : i = p
    · rw [h2, uW_at, if_pos rfl]
    · rw [uW_ne h2, if_neg h2, if_neg h]
theorem WDis.swap {p q : Nat} (h : WDis W) (hpq : p ≠ q) (hs : (p < 5 ∧ q < 5) ∨ ((5 ≤ p ∧ p < 9) ∧ (5 ≤ q ∧ q < 9))) : WDis (uW (uW W p (W q)) q (W p)) := by
  refine ⟨fun i j hi hj e => ?_, fun i j i5 i9 j5 j9 e => ?_⟩
  · rw [swap_is hpq, swap_is hpq] at e
    have r := h.1 _ _ (by split; omega; split; omega; omega) (by split; omega; split; omega; omega) e
    split at r <;> split at r <;> (try split at r) <;> (try split at r) <;> omega
  · rw [swap_is hpq, swap_is hpq] at e
    have r := h.2 _ _ (by split; omega; split; omega; omega) (by split; omega; split; omega; omega) (by split; omega; split; omega; omega) (by split; omega; split; omega; omega) e
    split at r <;> split at r <;> (try split at r) <;> (try split at r) <;> omega
theorem MP.swap {p q : Nat} (h : MP D W) (hpq : p ≠ q) (hs : (p < 5 ∧ q < 5) ∨ ((5 ≤ p ∧ p < 9) ∧ (5 ≤ q ∧ q < 9))) : MP D (uW (uW W p (W q)) q (W p)) := by
  obtain ⟨a1, a2, a3, a4⟩ := h
  refine ⟨a1, fun i hi => ?_, fun i i5 i9 => ?_, fun i hi => ?_⟩
  · rw [swap_is hpq]
    exact a2 _ (by split; omega; split; omega; omega)
  · rw [swap_is hpq]
    exact a3 _ (by split; omega; split; omega; omega) (by split; omega; split; omega; omega)
  · rw [swap_is hpq]
    exact a4 _ (by split; omega; split; omega; omega)
theorem wkm_blk {F : Nat → Int → Prop} (f : Fr F D D') (h : ∀ q j, (q = 161 ∨ q = 162) → j = a → ¬ F q j) (h2 : ∀ q j, 163 ≤ q → q ≤ 166 → 1000 * a ≤ j → j < 1000 * a + 1000 → ¬ F q j) (hb : D 161 a ≤ 1000) : wkm D' a = wkm D a := by
  have e1 : D' 161 a = D 161 a := f _ _ (h 161 a (Or.inl rfl) rfl)
  have e2 : D' 162 a = D 162 a := f _ _ (h 162 a (Or.inr rfl) rfl)
  have c : ∀ q, 163 ≤ q → q ≤ 166 → cut (D 161 a) (fun k => D' q (1000 * a + k)) = cut (D 161 a) (fun k => D q (1000 * a + k)) := fun q q0 q1 => by
    funext k
    unfold cut
    split
    · exact f _ _ (h2 q _ q0 q1 (by omega) (by omega))
    · rfl
  unfold wkm
  rw [e1, e2, c 163 (by decide) (by decide), c 164 (by decide) (by decide), c 165 (by decide) (by decide), c 166 (by decide) (by decide)]
theorem Pi9.tal (h : Pi9 D) {m : Int} (hm : m ≤ D 152 12) : Tal (D 18) (D 159) m := tal_of (fun k k0 k1 => by
  obtain ⟨⟨a1, a2⟩, a3⟩ := h.2 k k0 (by omega)
  exact ⟨a1, a2, a3⟩)
theorem Pi9.nil (e1 : D' 17 1 = 0) (e2 : D' 152 12 = 0) : Pi9 D' := ⟨⟨by rw [e1, e2], by rw [e2]; decide, by rw [e2]; decide⟩, fun k k0 k1 => by rw [e2] at k1; omega⟩
theorem zw_same (h : Pi9 D) : zwFin (D 159) (D 152 12) = zwFin (D 18) (D 17 1) ∧ zwalk (D 159) (min (D 152 12) 60) = zwalk (D 18) (min (D 17 1) 60) := by
  have e : zwalk (D 18) (min (D 17 1) 60) = zwalk (D 159) (min (D 152 12) 60) := by
    rw [h.1.1]
    exact (h.tal (by omega)).walk
  refine ⟨?_, e.symm⟩
  unfold zwFin
  rw [e, h.1.1]
theorem J_walk (h : R0 D W N) (tt : RT D) : Both n1 D W N mX9_walk mX10_walk [vi a] := by
  obtain ⟨pa, pb, pc, pd, pe, pf, pg, pi⟩ := h
  obtain ⟨⟨i1, i2, i3⟩, i4⟩ := id pi
  have w4 := pa.1.2.1 4 (by decide)
  have w4' := w4
  unfold walkId at w4
  refine ⟨_, C_walk (d := 213) (t := D 18) pa.1 (by omega) (by omega) (fun _ _ _ => rfl), ?_⟩
  rintro x1 m1 ⟨D1, W1, rfl, f1, e171, hb, k1⟩
  have m : ∀ q, 152 ≤ q → D1 q = D q := fun q hq => f1.obj (fun j => by unfold wF; omega)
  refine ⟨D1, W1, rfl, f1.obj (fun j => by unfold wF; omega), _, C_mwalk (d := 216) (t := D 159) (by rw [m 152 (by decide)]; exact i2) (by rw [m 152 (by decide)]; exact i3) (fun k _ _ => by rw [m 159 (by decide)]), ?_⟩
  rintro x2 m2 ⟨D2, rfl, e12, -, k2⟩
  rw [m 152 (by decide)] at k2
  obtain ⟨zs1, zs2⟩ := zw_same pi
  rw [zs1, zs2] at k2
  have wbd : ∀ b, 0 ≤ b → b ≤ 3 → D 161 b ≤ 1000 := fun b b0 b1 => (pe b b0 b1).2.1.2.2
  have main : (W1 = W ∧ x1 = x2 ∧ Fr wm0 D1 D2) ∨ ((0 ≤ a ∧ a ≤ 3) ∧ zwFin (D 18) (D 17 1) = -1 ∧ x1 = x2 ∧ W1 = uW (uW W a.toNat (W 4)) 4 (W a.toNat) ∧ wkv D1 (W 4) = (zwalk (D 18) (min (D 17 1) 60)).2.1 ∧ wkm D2 a = (zwalk (D 18) (min (D 17 1) 60)).2.1 ∧ Fr (wmS a) D1 D2) := by
    rcases k1 with ⟨g, r1, e1⟩ | ⟨g, z, r1, e1⟩ | ⟨g, z, r1, e1, e2⟩
    · rcases k2 with ⟨-, r2, f2⟩ | ⟨g', -⟩ | ⟨g', -⟩
      · exact Or.inl ⟨e1, r1.trans r2.symm, f2⟩
      · exact absurd g' g
      · exact absurd g' g
    · rcases k2 with ⟨g', -⟩ | ⟨-, -, r2, f2⟩ | ⟨-, z', -⟩
      · exact absurd g g'
      · exact Or.inl ⟨e1, r1.trans r2.symm, f2⟩
      · exact absurd z' z
    · rcases k2 with ⟨g', -⟩ | ⟨-, z', -⟩ | ⟨-, -, r2, q2, f2⟩
      · exact absurd g g'
      · exact absurd z z'
      · exact Or.inr ⟨g, z, r1.trans r2.symm, e1, e2, q2, f2⟩
  have bnd : ∀ i, i < 5 → ∀ D2 : DD, (∀ q, q < 152 → D2 q = D1 q) → 0 ≤ D2 (W i) 4 ∧ D2 (W i) 4 ≤ 1000 := by
    intro i hi D2 e
    have q := pa.1.2.1 i hi
    unfold walkId at q
    rw [e (W i) (by omega)]
    by_cases z : i = 4
    · rw [z]
      exact hb
    · have ne : W i ≠ W 4 := fun z' => z (pa.2.1.1 i 4 hi (by decide) z')
      rw [f1 (W i) 4 (by unfold wF; omega)]
      exact pa.1.2.2.2 i hi
  rcases main with ⟨eW, er, f2⟩ | ⟨g, z, er, eW, kx, km, f2⟩
  · subst eW
    have f : Fr (fun q j => (q = 17 ∨ wF (W1 4) q j) ∨ wm0 q j) D D2 := (f1.mono (fun q j z => Or.inl z)).trans (f2.mono (fun q j z => Or.inr z))
    have e2 : ∀ q, q < 152 → D2 q = D1 q := fun q hq => f2.obj (fun j => by unfold wm0; omega)
    obtain ⟨c1, c2⟩ := cup_fr f (fun q j z => by unfold uB at z; unfold wF wm0; omega)
    have r : R0 D2 W1 (N + 1) := ⟨pa.cg c1 (fun _ _ => rfl) (fun i hi => bnd i hi D2 e2) (f.obj (fun j => by unfold wF wm0; omega)) (f.obj (fun j => by unfold wF wm0; omega)), pb.cg c1 c2,
      pc.fr f (fun q j z => by unfold uC at z; unfold wF wm0; omega) (by rw [c2]), pd.fr f (fun q j z => by unfold uD at z; unfold wF wm0; omega) (by rw [c2]), pe.cg (fun b b0 b1 => ?_) (fun b b0 b1 => wkm_fr f (fun q j x y => by unfold wF wm0; omega)),
      pf.cg (laws_fr f pa.1.2.2.1 (fun _ _ => rfl) (fun q j z => by unfold wF wm0; omega)) (f.obj (fun j => by unfold wF wm0; omega)) (fun l hl => f.obj (fun j => by unfold wF wm0; omega)), pg.fr f (fun q j z => by unfold uG at z; unfold wF wm0; omega), Pi9.nil (by rw [e2 17 (by decide)]; exact e171) e12⟩
    · exact ⟨er, D2, uW W1 12 159, rfl, f.obj (fun j => by unfold wF wm0; omega), r.vW (fun i hi => uW_ne (by omega)), tt.fr f (fun q j z => by unfold uT at z; unfold wF wm0; omega)⟩
    · unfold wsv
      have q := pa.1.2.1 b.toNat (by omega)
      have ne : W1 b.toNat ≠ W1 4 := fun z' => by
        have := pa.2.1.1 b.toNat 4 (by omega) (by decide) z'
        omega
      unfold walkId at q
      exact wkv_fr f (fun q j x y z => by unfold wF wm0 at z; omega)
  · subst eW
    have hp4 : a.toNat ≠ 4 := by omega
    have f : Fr (fun q j => (q = 17 ∨ wF (W 4) q j) ∨ wmS a q j) D D2 := (f1.mono (fun q j z => Or.inl z)).trans (f2.mono (fun q j z => Or.inr z))
    have e2 : ∀ q, q < 152 → D2 q = D1 q := fun q hq => f2.obj (fun j => by unfold wmS wm0; omega)
    obtain ⟨c1, c2⟩ := cup_fr f (fun q j z => by unfold uB at z; unfold wF wmS wm0; omega)
    have paW : Pa D2 W := pa.cg c1 (fun _ _ => rfl) (fun i hi => bnd i hi D2 e2) (f.obj (fun j => by unfold wF wmS wm0; omega)) (f.obj (fun j => by unfold wF wmS wm0; omega))
    have wb : WB (zwalk (D 18) (min (D 17 1) 60)).2.1 := zwalk_WB (by omega) (zfin_good z)
    have hWl : ∀ i, 5 ≤ i → i < 9 → uW (uW W a.toNat (W 4)) 4 (W a.toNat) i = W i := fun i i5 i9 => by rw [uW_ne (by omega), uW_ne (by omega)]
    have r : R0 D2 (uW (uW W a.toNat (W 4)) 4 (W a.toNat)) (N + 1) := by
      refine ⟨⟨paW.1.swap hp4 (Or.inl ⟨by omega, by decide⟩), paW.2.1.swap hp4 (Or.inl ⟨by omega, by decide⟩), paW.2.2⟩, pb.cg c1 c2,
        pc.fr f (fun q j z => by unfold uC at z; unfold wF wmS wm0; omega) (by rw [c2]), pd.fr f (fun q j z => by unfold uD at z; unfold wF wmS wm0; omega) (by rw [c2]), fun b b0 b1 => ?_,
        pf.cg (laws_fr5 f pa.1.2.2.1 hWl (fun q j z => by unfold wF wmS wm0; omega)) (f.obj (fun j => by unfold wF wmS wm0; omega)) (fun l hl => f.obj (fun j => by unfold wF wmS wm0; omega)), pg.fr f (fun q j z => by unfold uG at z; unfold wF wmS wm0; omega), Pi9.nil (by rw [e2 17 (by decide)]; exact e171) e12⟩
      unfold wsv
      rw [swap_is hp4]
      by_cases e : b = a
      · subst e
        rw [if_pos rfl]
        have e3 : wkv D2 (W 4) = wkv D1 (W 4) := wkv_fr f2 (fun q j x y => by unfold wmS wm0; omega)
        rw [e3, kx, km]
        exact ⟨rfl, wb⟩
      · rw [if_neg (by omega), if_neg (by omega)]
        have q := pa.1.2.1 b.toNat (by omega)
        have ne : W b.toNat ≠ W 4 := fun z' => by
          have := pa.2.1.1 b.toNat 4 (by omega) (by decide) z'
          omega
        unfold walkId at q
        have e3 : wkv D2 (W b.toNat) = wkv D (W b.toNat) := wkv_fr f (fun q j x y z => by unfold wF wmS wm0 at z; omega)
        have e4 : wkm D2 b = wkm D b := wkm_blk f (fun q j x y z => by unfold wF wmS wm0 at z; omega) (fun q j x y u v z => by unfold wF wmS wm0 at z; omega) (wbd b b0 b1)
        rw [e3, e4]
        exact pe b b0 b1
    exact ⟨er, D2, _, rfl, f.obj (fun j => by unfold wF wmS wm0; omega), r.vW (fun i hi => uW_ne (by omega)), tt.fr f (fun q j z => by unfold uT at z; unfold wF wmS wm0; omega)⟩
end JWL
