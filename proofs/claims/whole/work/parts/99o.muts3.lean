/-! ===== cup, keep, again; what is told of WALKS, spots, films; the rest, both sides ===== -/
section JMV
variable {n1 : Nat} {D D' : DD} {W V : Nat → Nat} {N : Int} {a b v k x y : Int}
theorem bits_fin : ∀ b : Fin 8, ∀ i : Fin 3, ∀ j : Fin 3, (0 ≤ bOr (b.val : Int) (bShl 1 (i.val : Int)) ∧ bOr (b.val : Int) (bShl 1 (i.val : Int)) ≤ 7) ∧ ((bAnd (bShr (bOr (b.val : Int) (bShl 1 (i.val : Int))) (j.val : Int)) 1 ≠ 0) ↔ (bAnd (bShr (b.val : Int) (j.val : Int)) 1 ≠ 0 ∨ j.val = i.val)) := by decide +kernel
theorem bits_of {b i j : Int} (hb : 0 ≤ b ∧ b ≤ 7) (hi : 0 ≤ i ∧ i ≤ 2) (hj : 0 ≤ j ∧ j ≤ 2) : (0 ≤ bOr b (bShl 1 i) ∧ bOr b (bShl 1 i) ≤ 7) ∧ (kbit (bOr b (bShl 1 i)) j ↔ kbit b j ∨ j = i) := by
  obtain ⟨q1, q2⟩ := bits_fin ⟨b.toNat, by omega⟩ ⟨i.toNat, by omega⟩ ⟨j.toNat, by omega⟩
  have eb : ((b.toNat : Nat) : Int) = b := by omega
  have ei : ((i.toNat : Nat) : Int) = i := by omega
  have ej : ((j.toNat : Nat) : Int) = j := by omega
  dsimp only at q1 q2
  rw [eb, ei] at q1 q2
  rw [ej] at q2
  refine ⟨q1, ?_⟩
  unfold kbit
  rw [q2]
  exact or_congr Iff.rfl (by omega)
theorem kbit0 : ∀ j : Fin 3, ¬ (bAnd (bShr 0 (j.val : Int)) 1 ≠ 0) := by decide +kernel
theorem kbit_0 {j : Int} (hj : 0 ≤ j ∧ j ≤ 2) : ¬ kbit 0 j := by
  have q := kbit0 ⟨j.toNat, by omega⟩
  have ej : ((j.toNat : Nat) : Int) = j := by omega
  dsimp only at q
  rw [ej] at q
  exact q
/-- nothing but whether something was thrown -/
theorem R0.same (h : R0 D W N) (t : RT D) (f : Fr (fun q j => q = 152 ∧ j = 15) D D') : R0 D' W (N + 1) ∧ RT D' := by
  have f' : Fr cuM D D' := f.mono (fun q j z => by unfold cuM; omega)
  obtain ⟨c1, c2⟩ := cup_fr f (fun q j z => by unfold uB at z; omega)
  exact h.newcup t f' (by rw [c1, c2]; exact h.2.1.1) (by rw [c2]; exact h.run.2.1) (by rw [c2]; exact h.2.1.2) (by rw [c2])
theorem J_cup (h : R0 D W N) (t : RT D) (h0 : 0 ≤ N) (hN : N ≤ 1000) : Both n1 D W N mX9_cup mX10_cup [vi a, vi b, vi v] := by
  refine ⟨_, C_cup (d := 213), ?_⟩
  rintro x1 m1 ⟨D1, rfl, f1, k1⟩
  have m : ∀ q, 152 ≤ q → D1 q = D q := fun q hq => f1.obj (fun j => by unfold cuF; omega)
  obtain ⟨c1, -, s1, -, -, -⟩ := m_sees m
  refine ⟨D1, W, rfl, f1.obj (fun j => by unfold cuF; omega), _, C_mcup (d := 219), ?_⟩
  rintro x2 m2 ⟨D2, rfl, f2, -, k2⟩
  rw [c1, s1, m 152 (by decide)] at k2
  rw [h.2.1.1, h.2.2.1.1] at k1
  rcases k1 with ⟨g, r1, e1, e2, e3⟩ | ⟨g, r1, e1⟩
  · rcases k2 with ⟨-, r2, g1, g2, g3⟩ | ⟨g', -⟩
    · obtain ⟨pa, pb, pc, pd, pe, pf, pg, pi⟩ := h
      have cok : COK (mcup D) := by rw [← pb.1]; exact pa.1.1
      have cd1 : cupv D2 5 = cupv D1 5 := cupv_fr f2 (fun q j a b => by unfold mcF; omega)
      have cs1 : stv D2 8 = stv D1 8 := stv_fr f2 (fun q j a b => by unfold mcF; omega)
      obtain ⟨z1, z2⟩ := zcup_COK cok g
      have f : Fr (fun q j => cuF q j ∨ mcF q j) D D2 := (f1.mono (fun q j z => Or.inl z)).trans (f2.mono (fun q j z => Or.inr z))
      have hc2 : cupv D2 5 = mcup D2 := by rw [cd1, e1, g1]
      have e43 : D2 4 3 = 0 := by rw [f2 4 3 (by unfold mcF; omega)]; exact e3
      have e16 : D2 152 16 = D 152 16 + 1 := by rw [g3]; have := pd.1; exact w32_id (by omega) (by omega)
      refine ⟨r1.trans r2.symm, D2, W, rfl, f.obj (fun j => by unfold cuF mcF; omega), ⟨pa.fr f (fun q j z => by unfold uA at z; unfold cuF mcF; omega) (by rw [hc2, g1]; exact z1), ⟨hc2, by rw [g1]; exact z2⟩, ⟨by rw [cs1, e2, g2], ?_⟩, ⟨?_, ?_, ?_⟩, pe.fr pa.1 f (fun q j z => by unfold uE at z; unfold cuF mcF; omega), pf.fr pa.1 f (fun q j z => by unfold uF at z; unfold cuF mcF; omega), pg.fr f (fun q j z => by unfold uG at z; unfold cuF mcF; omega), pi.fr f (fun q j z => by unfold uI at z; unfold cuF mcF; omega)⟩, t.fr f (fun q j z => by unfold uT at z; unfold cuF mcF; omega)⟩
      · rw [g2]
        exact ⟨zfresh_SOK z1, zfresh_BK z1, by show (0 : Int) ≤ _; omega⟩
      · rw [e16]
        have := pd.1
        omega
      · rw [e43]
        exact ⟨by decide, by decide⟩
      · intro i i0 i1
        have q := (pd.2.2 i i0 i1).2.2
        have e189 : D2 192 i = D 192 i := f _ _ (by unfold cuF mcF; omega)
        have nk := kbit_0 ⟨i0, i1⟩
        unfold Pd1
        rw [e43, e189, e16]
        exact ⟨⟨fun z => absurd z nk, fun z => by omega⟩, fun z => absurd z nk, by omega⟩
    · exact absurd g g'
  · rcases k2 with ⟨g', -⟩ | ⟨-, r2, f3⟩
    · exact absurd g' g
    · subst e1
      obtain ⟨hr, ht⟩ := h.same t f3
      exact ⟨r1.trans r2.symm, D2, W, rfl, f3.obj (fun j => by omega), hr, ht⟩
theorem J_keep (h : R0 D W N) (t : RT D) (h0 : 0 ≤ N) : Both n1 D W N mX9_keep mX10_keep [vi a] := by
  refine ⟨_, C_keep (d := 213), ?_⟩
  rintro x1 m1 ⟨D1, rfl, f1, k1⟩
  have m : (0 ≤ a ∧ a ≤ 2) ∨ D1 = D := by
    rcases k1 with ⟨g, -⟩ | ⟨-, -, e⟩
    · exact Or.inl g
    · exact Or.inr e
  have m : ∀ q, 152 ≤ q → D1 q = D q := fun q hq => by
    rcases m with g | e
    · exact f1.obj (fun j => by unfold krF; omega)
    · rw [e]
  obtain ⟨c1, -, s1, -, -, -⟩ := m_sees m
  have o1 : D1 1 = D 1 := by
    rcases k1 with ⟨g, -⟩ | ⟨-, -, e⟩
    · exact f1.obj (fun j => by unfold krF; omega)
    · rw [e]
  refine ⟨D1, W, rfl, o1, _, C_mkeep (d := 218), ?_⟩
  rintro x2 m2 ⟨D2, rfl, f2, -, k2⟩
  rw [s1, m 152 (by decide)] at k2
  rw [h.2.2.1.1] at k1
  rcases k1 with ⟨g, r1, e1, e2⟩ | ⟨g, r1, e1⟩
  · rcases k2 with ⟨-, r2, g1, g2, g3⟩ | ⟨g', -⟩
    · obtain ⟨pa, pb, pc, pd, pe, pf, pg, pi⟩ := h
      have f : Fr (fun q j => krF a q j ∨ mkF a q j) D D2 := (f1.mono (fun q j z => Or.inl z)).trans (f2.mono (fun q j z => Or.inr z))
      obtain ⟨cc, cm⟩ := cup_fr f (fun q j z => by unfold uB at z; unfold krF mkF; omega)
      have e43 : D2 4 3 = bOr (D 4 3) (bShl 1 a) := by rw [f2 4 3 (by unfold mkF; omega)]; exact e2
      have e16 : D2 152 16 = D 152 16 := f _ _ (by unfold krF mkF; omega)
      refine ⟨r1.trans r2.symm, D2, W, rfl, f.obj (fun j => by unfold krF mkF; omega), ⟨pa.fr f (fun q j z => by unfold uA at z; unfold krF mkF; omega) (by rw [cc]; exact pa.1.1), pb.cg cc cm, pc.fr f (fun q j z => by unfold uC at z; unfold krF mkF; omega) (by rw [cm]), ⟨?_, ?_, ?_⟩, pe.fr pa.1 f (fun q j z => by unfold uE at z; unfold krF mkF; omega), pf.fr pa.1 f (fun q j z => by unfold uF at z; unfold krF mkF; omega), pg.fr f (fun q j z => by unfold uG at z; unfold krF mkF; omega), pi.fr f (fun q j z => by unfold uI at z; unfold krF mkF; omega)⟩, t.fr f (fun q j z => by unfold uT at z; unfold krF mkF; omega)⟩
      · rw [e16]
        have := pd.1
        omega
      · rw [e43]
        exact (bits_of pd.2.1 g g).1
      · intro i i0 i1
        obtain ⟨p1, p2, p3⟩ := pd.2.2 i i0 i1
        have kb := (bits_of pd.2.1 g ⟨i0, i1⟩).2
        unfold Pd1
        rw [e43, e16, cm]
        by_cases e : i = a
        · subst e
          have e3 : stv D2 (99 + 8 * i.toNat) = stv D1 (99 + 8 * i.toNat) := stv_fr f2 (fun q j a b => by unfold mkF; omega)
          rw [e3, e1, g1, g2, g3]
          exact ⟨⟨fun _ => ⟨by decide, rfl⟩, fun _ => kb.mpr (Or.inr rfl)⟩, fun _ => ⟨rfl, pc.2.mono (by omega)⟩, pd.1.1, Int.le_refl _⟩
        · have e188 : D2 191 i = D 191 i := f _ _ (by unfold krF mkF; omega)
          have e189 : D2 192 i = D 192 i := f _ _ (by unfold krF mkF; omega)
          have e3 : stv D2 (99 + 8 * i.toNat) = stv D (99 + 8 * i.toNat) := stv_fr f (fun q j a b => by unfold krF mkF; omega)
          have e4 : mkv D2 177 (105 * i) = mkv D 177 (105 * i) := mkv_fr f (fun j a b => by unfold krF mkF; omega)
          rw [e188, e189, e3, e4]
          have kb' : kbit (bOr (D 4 3) (bShl 1 a)) i ↔ kbit (D 4 3) i := ⟨fun z => (kb.mp z).resolve_right e, fun z => kb.mpr (Or.inl z)⟩
          exact ⟨kb'.trans p1, fun z => ⟨(p2 (kb'.mp z)).1, (p2 (kb'.mp z)).2.mono (by omega)⟩, p3⟩
    · exact absurd g g'
  · rcases k2 with ⟨g', -⟩ | ⟨-, r2, f3⟩
    · exact absurd g' g
    · subst e1
      obtain ⟨hr, ht⟩ := h.same t f3
      exact ⟨r1.trans r2.symm, D2, W, rfl, f3.obj (fun j => by omega), hr, ht⟩
theorem J_again (h : R0 D W N) (t : RT D) : Both n1 D W N mX9_again mX10_again [vi a] := by
  refine ⟨_, C_again (d := 213), ?_⟩
  rintro x1 m1 ⟨D1, rfl, f1, k1⟩
  have m : ∀ q, 152 ≤ q → D1 q = D q := fun q hq => f1.obj (fun j => by unfold s8F; omega)
  obtain ⟨c1, -, s1, -, -, -⟩ := m_sees m
  refine ⟨D1, W, rfl, f1.obj (fun j => by unfold s8F; omega), _, C_magain (d := 218), ?_⟩
  rintro x2 m2 ⟨D2, rfl, f2, -, k2⟩
  have f : Fr stM D D2 := (f1.mono (fun q j z => by unfold s8F at z; unfold stM; omega)).trans (f2.mono (fun q j z => by unfold bbF at z; unfold stM; omega))
  have s2 : stv D2 8 = stv D1 8 := stv_fr f2 (fun q j a b => by unfold bbF; omega)
  have ek : mkv D1 177 (105 * a) = mkv D 177 (105 * a) := mkv_ext (fun o _ _ => by rw [m 177 (by decide)])
  rw [s1, m 191 (by decide), m 192 (by decide), m 152 (by decide), ek] at k2
  have gs := h.2.2.1.2
  have hd := h.2.2.2.1.2.2
  rcases k1 with ⟨⟨g, gk⟩, r1, e1⟩ | ⟨g, r1, e1⟩
  · obtain ⟨p1, p2, -⟩ := hd a g.1 g.2
    rcases k2 with ⟨-, r2, e2⟩ | ⟨g', -⟩
    · obtain ⟨q1, q2⟩ := p2 gk
      obtain ⟨hr, ht⟩ := h.newst t f V12.refl (by rw [s2, e1, e2, q1]) (by rw [e2]; exact q2.mono (by omega))
      exact ⟨r1.trans r2.symm, D2, W, rfl, f.obj (fun j => by unfold stM; omega), hr, ht⟩
    · exact absurd ⟨g, p1.mp gk⟩ g'
  · rcases k2 with ⟨⟨g', gk⟩, -⟩ | ⟨-, r2, e2⟩
    · exact absurd ⟨g', (hd a g'.1 g'.2).1.mpr gk⟩ g
    · obtain ⟨hr, ht⟩ := h.newst t f V12.refl (by rw [s2, e1, e2]; exact h.2.2.1.1) (by rw [e2]; exact gs.mono (by omega))
      exact ⟨r1.trans r2.symm, D2, W, rfl, f.obj (fun j => by unfold stM; omega), hr, ht⟩
end JMV
