/-! ===== old SLOPES that no run looks at ===== -/
def SimS (s s' : Sv) : Prop := sTick s = sTick s' ∧ sDrawn s = sDrawn s' ∧ sAl s = sAl s' ∧ sAc s = sAc s' ∧ ∀ k : Int, 0 ≤ k → sTick s - 20 ≤ k → k < sTick s → sSeen s (k % 21) = sSeen s' (k % 21)
theorem SimS.refl {s : Sv} : SimS s s := ⟨rfl, rfl, rfl, rfl, fun _ _ _ _ => rfl⟩
theorem SimS.symm {s s' : Sv} (h : SimS s s') : SimS s' s := by
  obtain ⟨h1, h2, h3, h4, h5⟩ := h
  exact ⟨h1.symm, h2.symm, h3.symm, h4.symm, fun k a b c => (h5 k a (by omega) (by omega)).symm⟩
theorem SimS.trans {s s' s'' : Sv} (h : SimS s s') (g : SimS s' s'') : SimS s s'' := by
  obtain ⟨h1, h2, h3, h4, h5⟩ := h
  obtain ⟨g1, g2, g3, g4, g5⟩ := g
  exact ⟨h1.trans g1, h2.trans g2, h3.trans g3, h4.trans g4, fun k a b c => (h5 k a b c).trans (g5 k a (by omega) (by omega))⟩
theorem SimS.seen {c : Cv} {s s' : Sv} (h : SimS s s') (l0 : 0 ≤ cSet c 5) (l1 : cSet c 5 ≤ 20) : zseen c s = zseen c s' := by
  obtain ⟨h1, h2, h3, h4, h5⟩ := h
  unfold zseen
  rw [h3, ← h1]
  split
  · rfl
  · split
    · exact h5 _ (by omega) (by omega) (by omega)
    · rfl
theorem SimS.given {c : Cv} {L : Option (List Int)} {s s' : Sv} {p : Int} (h : SimS s s') (l0 : 0 ≤ cSet c 5) (l1 : cSet c 5 ≤ 20) : zgiven c L s p = zgiven c L s' p := by
  unfold zgiven
  match L with
  | none => rfl
  | some cd =>
    show zlaw cd p (zseen c s) (sTick s) (cSet c 2) ((sAl s).1 0) = _
    rw [h.seen l0 l1, h.1, h.2.2.1]
theorem SimS.tick {c : Cv} {pa pc : Int} {s s' : Sv} (h : SimS s s') (t0 : 0 ≤ sTick s) (t1 : sTick s < 2147483647) : (ztick c pa pc s).1 = (ztick c pa pc s').1 ∧ SimS (ztick c pa pc s).2 (ztick c pa pc s').2 := by
  obtain ⟨h1, h2, h3, h4, h5⟩ := h
  have et : sTick (ztick c pa pc s).2 = sTick s + 1 := w32_id (by omega) (by omega)
  refine ⟨?_, ?_, h2, ?_, ?_, fun k a b d => ?_⟩
  · show w32 _ = w32 _
    rw [h3, h4]
  · show w32 _ = w32 _
    rw [h1]
  · show (zrow c pa (sAl s)).2 = (zrow c pa (sAl s')).2
    rw [h3]
  · show (zrow c pc (sAc s)).2 = (zrow c pc (sAc s')).2
    rw [h4]
  · rw [et] at b d
    show zu (sSeen s) (sTick s % 21) (zslope c (sAl s)) (k % 21) = zu (sSeen s') (sTick s' % 21) (zslope c (sAl s')) (k % 21)
    rw [← h1, ← h3]
    by_cases e : k = sTick s
    · rw [e, zu_at, zu_at]
    · rw [zu_ne (by omega), zu_ne (by omega)]
      exact h5 k a (by omega) (by omega)
theorem SimS.wans {m : Int} {s s' : Sv} (h : SimS s s') : zwan m s = zwan m s' ∧ SimS (zwans m s) (zwans m s') := by
  have h' := h
  obtain ⟨h1, h2, h3, h4, h5⟩ := h
  unfold zwan zwans
  rw [h2]
  split
  · exact ⟨rfl, h1, rfl, h3, h4, h5⟩
  · exact ⟨rfl, h'⟩
theorem SimS.carry {c : Cv} {L : Option (List Int)} {w : Wv} {i t : Int} {s s' : Sv} (h : SimS s s') (t0 : 0 ≤ sTick s) (t1 : sTick s < 2147483647) (l0 : 0 ≤ cSet c 5) (l1 : cSet c 5 ≤ 20) :
    (zcarry c L w i t s).1 = (zcarry c L w i t s').1 ∧ SimS (zcarry c L w i t s).2 (zcarry c L w i t s').2 := by
  obtain ⟨w1, w2⟩ := h.wans (m := wWan w i)
  unfold zcarry
  rw [w1, w2.given l0 l1]
  split
  · exact w2.tick (by rw [zwans_tick]; exact t0) (by rw [zwans_tick]; exact t1)
  · exact w2.tick (by rw [zwans_tick]; exact t0) (by rw [zwans_tick]; exact t1)
/-- what a run tells -/
abbrev Zo : Type := Int × Int × Int × Int × List Int
def zout (z : Zr) : Zo := z.2
def SimZ (z z' : Zr) : Prop := SimS (zS z) (zS z') ∧ zout z = zout z'
theorem SimZ.note {cap : Nat} {c : Cv} {x x' : Int × Sv} {z z' : Zr} (h : SimZ z z') (h1 : x.1 = x'.1) (h2 : SimS x.2 x'.2) : SimZ (znote cap c x z) (znote cap c x' z') := by
  obtain ⟨g1, g2⟩ := h
  refine ⟨h2, ?_⟩
  obtain ⟨a1, a2, a3, a4, -⟩ := h2
  have e1 : zSum z = zSum z' := congrArg Prod.fst g2
  have e2 : zFirst z = zFirst z' := congrArg (fun q => q.2.1) g2
  have e3 : zHigh z = zHigh z' := congrArg (fun q => q.2.2.1) g2
  have e4 : zGsl z = zGsl z' := congrArg (fun q => q.2.2.2.1) g2
  have e5 : zList z = zList z' := congrArg (fun q => q.2.2.2.2) g2
  unfold znote zout
  dsimp only
  rw [e1, e2, e3, e4, e5, h1, a1, a3, a4]
theorem SimZ.run {cap : Nat} {c : Cv} {L : Option (List Int)} {w : Wv} {t : Int → Int} (l0 : 0 ≤ cSet c 5) (l1 : cSet c 5 ≤ 20) : ∀ {n : Nat} {i : Int} {z z' : Zr}, SimZ z z' → 0 ≤ sTick (zS z) → sTick (zS z) + n < 2147483647 →
    SimZ (zrun cap c L w t n i z) (zrun cap c L w t n i z')
  | 0, _, _, _, h, _, _ => h
  | n + 1, i, z, z', h, t0, t1 => by
    rw [zrun_s, zrun_s]
    obtain ⟨a1, a2⟩ := h.1.carry (c := c) (L := L) (w := w) (i := i) (t := t i) t0 (by omega) l0 l1
    have et : sTick (zS (znote cap c (zcarry c L w i (t i) (zS z)) z)) = sTick (zS z) + 1 := by
      show sTick (zcarry c L w i (t i) (zS z)).2 = _
      unfold zcarry
      split
      · show w32 (sTick (zwans _ _) + 1) = _
        rw [zwans_tick, w32_id (by omega) (by omega)]
      · show w32 (sTick (zwans _ _) + 1) = _
        rw [zwans_tick, w32_id (by omega) (by omega)]
    exact SimZ.run l0 l1 (h.note a1 a2) (by rw [et]; omega) (by rw [et]; omega)
/-- the start without what was seen before -/
def zbeg0 (c : Cv) (seed : Int) : Zr := ((0, seed, zfr (cFill c), zfr (cFill c), fun _ => 0), 0, -1, 0, 0, [])
theorem zbeg_sim {c : Cv} {s : Sv} {seed : Int} : SimZ (zbeg c s seed) (zbeg0 c seed) := ⟨⟨rfl, rfl, rfl, rfl, fun k a _ d => absurd (show k < 0 from d) (by omega)⟩, rfl⟩
theorem zbeg0_ok {c : Cv} {seed : Int} (hc : COK c) : ZOK (zbeg0 c seed) := by
  obtain ⟨l0, l1, r0, r1, f0, f1, s0⟩ := hc
  exact ⟨⟨HOK_fresh f0 (by omega), HOK_fresh f0 (by omega), Int.le_refl 0⟩, Int.le_refl 0⟩
