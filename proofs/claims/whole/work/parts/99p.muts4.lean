/-! ===== leads, spot, wipe, film; sign, end; both sides ===== -/
section JMW
variable {n1 : Nat} {D D' : DD} {W V : Nat → Nat} {N : Int} {a b v k x y : Int}
def reM (q : Nat) (j : Int) : Prop := uG q j ∨ (q = 152 ∧ j = 15)
theorem R0.newrest (h : R0 D W N) (t : RT D) (f : Fr reM D D') (hg : Pg7 D') : R0 D' W (N + 1) ∧ RT D' := by
  obtain ⟨pa, pb, pc, pd, pe, pf, pg, pi⟩ := h
  obtain ⟨c1, c2⟩ := cup_fr f (fun q j z => by unfold uB at z; unfold reM uG; omega)
  exact ⟨⟨pa.fr f (fun q j z => by unfold uA at z; unfold reM uG; omega) (by rw [c1]; exact pa.1.1), pb.cg c1 c2, pc.fr f (fun q j z => by unfold uC at z; unfold reM uG; omega) (by rw [c2]), pd.fr f (fun q j z => by unfold uD at z; unfold reM uG; omega) (by rw [c2]), pe.fr pa.1 f (fun q j z => by unfold uE at z; unfold reM uG; omega), pf.fr pa.1 f (fun q j z => by unfold uF at z; unfold reM uG; omega), hg, pi.fr f (fun q j z => by unfold uI at z; unfold reM uG; omega)⟩, t.fr f (fun q j z => by unfold uT at z; unfold reM uG; omega)⟩
theorem J_leads (h : R0 D W N) (t : RT D) : Both n1 D W N mX9_leads mX10_leads [vi a, vi v] := by
  refine ⟨_, C_leads (d := 213), ?_⟩
  rintro x1 m1 ⟨D1, rfl, f1, k1⟩
  refine ⟨D1, W, rfl, f1.obj (fun j => by omega), _, C_mleads (d := 218), ?_⟩
  rintro x2 m2 ⟨D2, rfl, f2, -, k2⟩
  have f : Fr reM D D2 := (f1.mono (fun q j z => by unfold reM uG; omega)).trans (f2.mono (fun q j z => by unfold reM uG; omega))
  have ff : Fr (fun q j => q = 20 ∨ q = 180 ∨ (q = 152 ∧ j = 15)) D D2 := (f1.mono (fun q j z => by omega)).trans (f2.mono (fun q j z => by omega))
  have e177 : D1 180 = D 180 := f1.obj (fun j => by omega)
  have e20 : D2 20 = D1 20 := f2.obj (fun j => by omega)
  rw [e177] at k2
  obtain ⟨g1, g2, g3⟩ := h.2.2.2.2.2.2.1
  have gg : ∀ x20 x177 : Int → Int, D2 20 = x20 → D2 180 = x177 → (∀ j, 0 ≤ j → j < 4 → x20 j = x177 j ∧ 0 ≤ x177 j ∧ x177 j ≤ 99) → Pg7 D2 := fun x20 x177 u w z => ⟨by rw [u, w]; exact z, by rw [ff 4 13 (by omega), ff 152 57 (by omega), sp_fr ff (by omega) (fun j => by omega), msp_fr ff (by omega) (fun j => by omega)]; exact g2, by rw [ff 93 4 (by omega), ff 152 59 (by omega), fl_fr ff (fun q j a b => by omega), mfl_fr ff (by omega) (fun q j a b => by omega)]; exact g3⟩
  rcases k1 with ⟨g, r1, e1⟩ | ⟨g, r1, e1⟩
  · rcases k2 with ⟨-, r2, e2⟩ | ⟨g', -⟩
    · have q := g1 a g.1.1 (by omega)
      obtain ⟨hr, ht⟩ := h.newrest t f (gg _ _ (e20.trans e1) e2 (fun j j0 j1 => by
        by_cases z : j = a
        · rw [z, zu_at, zu_at]
          exact ⟨rfl, g.2⟩
        · rw [zu_ne z, zu_ne z]
          exact g1 j j0 j1))
      exact ⟨by rw [r1, r2]; exact q.1, D2, W, rfl, f.obj (fun j => by unfold reM uG; omega), hr, ht⟩
    · exact absurd g g'
  · rcases k2 with ⟨g', -⟩ | ⟨-, r2, e2⟩
    · exact absurd g' g
    · obtain ⟨hr, ht⟩ := h.newrest t f (gg _ _ (e20.trans (by rw [e1])) e2 g1)
      exact ⟨r1.trans r2.symm, D2, W, rfl, f.obj (fun j => by unfold reM uG; omega), hr, ht⟩
theorem J_spot (h : R0 D W N) (t : RT D) : Both n1 D W N mX9_spot mX10_spot [vi v] := by
  obtain ⟨g1, ⟨s1, s2, s3, s4, s5⟩, g3⟩ := h.2.2.2.2.2.2.1
  refine ⟨_, C_spot (d := 213) (by omega) (by omega), ?_⟩
  rintro x1 m1 ⟨D1, rfl, f1, k1⟩
  have e57 : D1 152 57 = D 152 57 := f1 _ _ (by omega)
  refine ⟨D1, W, rfl, f1.obj (fun j => by omega), _, C_mspot (d := 219) (by rw [e57]; exact s2) (by rw [e57]; exact s3), ?_⟩
  rintro x2 m2 ⟨D2, rfl, f2, -, k2⟩
  have f : Fr reM D D2 := (f1.mono (fun q j z => by unfold reM uG; omega)).trans (f2.mono (fun q j z => by unfold reM uG; omega))
  have ff : Fr (fun q j => q = 92 ∨ (q = 4 ∧ j = 13) ∨ q = 186 ∨ (q = 152 ∧ (j = 57 ∨ j = 15))) D D2 := (f1.mono (fun q j z => by omega)).trans (f2.mono (fun q j z => by omega))
  have ms : mspots D1 = mspots D := msp_fr f1 (by omega) (fun j => by omega)
  have e413 : D2 4 13 = D1 4 13 := f2 _ _ (by omega)
  have es : spotsv D2 = spotsv D1 := sp_fr f2 (by omega) (fun j => by omega)
  rw [e57, ms] at k2
  have gg : (D2 4 13 = D2 152 57 ∧ 0 ≤ D2 152 57 ∧ D2 152 57 ≤ 12 ∧ spotsv D2 = mspots D2 ∧ LIn (mspots D2)) → Pg7 D2 := fun z => ⟨by rw [ff.obj (o := 20) (fun j => by omega), ff.obj (o := 180) (fun j => by omega)]; exact g1, z, by rw [ff 93 4 (by omega), ff 152 59 (by omega), fl_fr ff (fun q j a b => by omega), mfl_fr ff (by omega) (fun q j a b => by omega)]; exact g3⟩
  rcases k1 with ⟨g, r1, e1, e2⟩ | ⟨g, r1, e1⟩
  · rcases k2 with ⟨-, r2, q1, q2⟩ | ⟨g', -⟩
    · obtain ⟨hr, ht⟩ := h.newrest t f (gg ⟨by rw [e413, e2, q2]; omega, by rw [q2]; omega, by rw [q2]; omega, by rw [es, e1, q1, s4], by
        rw [q1]
        intro x hx
        rcases List.mem_append.mp hx with z | z
        · exact s5 x z
        · rw [List.mem_singleton.mp z]
          omega⟩)
      exact ⟨by rw [r1, r2]; omega, D2, W, rfl, f.obj (fun j => by unfold reM uG; omega), hr, ht⟩
    · exact absurd ⟨g.1, by rw [← s1]; exact g.2⟩ g'
  · rcases k2 with ⟨g', -⟩ | ⟨-, r2, q1, q2⟩
    · exact absurd ⟨g'.1, by rw [s1]; exact g'.2⟩ g
    · obtain ⟨hr, ht⟩ := h.newrest t f (gg ⟨by rw [e413, e1, q2]; exact s1, by rw [q2]; exact s2, by rw [q2]; exact s3, by rw [es, e1, q1]; exact s4, by rw [q1]; exact s5⟩)
      exact ⟨r1.trans r2.symm, D2, W, rfl, f.obj (fun j => by unfold reM uG; omega), hr, ht⟩
theorem J_wipe (h : R0 D W N) (t : RT D) : Both n1 D W N mX9_wipe mX10_wipe [] := by
  obtain ⟨g1, ⟨s1, s2, s3, s4, s5⟩, g3⟩ := h.2.2.2.2.2.2.1
  refine ⟨_, C_wipe (d := 213), ?_⟩
  rintro x1 m1 ⟨D1, rfl, f1, r1, k1, k2⟩
  have e57 : D1 152 57 = D 152 57 := f1 _ _ (by omega)
  refine ⟨D1, W, rfl, f1.obj (fun j => by omega), _, C_mwipe (d := 220), ?_⟩
  rintro x2 m2 ⟨D2, rfl, f2, -, r2, q1, q2⟩
  have f : Fr reM D D2 := (f1.mono (fun q j z => by unfold reM uG; omega)).trans (f2.mono (fun q j z => by unfold reM uG; omega))
  have ff : Fr (fun q j => (q = 4 ∧ j = 13) ∨ (q = 152 ∧ (j = 57 ∨ j = 15))) D D2 := (f1.mono (fun q j z => by omega)).trans (f2.mono (fun q j z => by omega))
  have e413 : D2 4 13 = D1 4 13 := f2 _ _ (by omega)
  have es : spotsv D2 = spotsv D1 := sp_fr f2 (by omega) (fun j => by omega)
  obtain ⟨hr, ht⟩ := h.newrest t f ⟨by rw [ff.obj (o := 20) (fun j => by omega), ff.obj (o := 180) (fun j => by omega)]; exact g1, ⟨by rw [e413, k2, q2], by rw [q2]; decide, by rw [q2]; decide, by rw [es, k1, q1], by rw [q1]; intro x hx; cases hx⟩, by rw [ff 93 4 (by omega), ff 152 59 (by omega), fl_fr ff (fun q j a b => by omega), mfl_fr ff (by omega) (fun q j a b => by omega)]; exact g3⟩
  exact ⟨by rw [r1, r2, e57]; exact s1, D2, W, rfl, f.obj (fun j => by unfold reM uG; omega), hr, ht⟩
theorem J_film (h : R0 D W N) (t : RT D) : Both n1 D W N mX9_film mX10_film [vi a, vi b, vi v, vi k] := by
  obtain ⟨g1, g2, ⟨s1, s2, s3, s4, s5⟩⟩ := h.2.2.2.2.2.2.1
  refine ⟨_, C_film (d := 213) (by omega) (by omega), ?_⟩
  rintro x1 m1 ⟨D1, rfl, f1, k1⟩
  have e57 : D1 152 59 = D 152 59 := f1 _ _ (by omega)
  refine ⟨D1, W, rfl, f1.obj (fun j => by omega), _, C_mfilm (d := 219) (by rw [e57]; exact s2) (by rw [e57]; exact s3), ?_⟩
  rintro x2 m2 ⟨D2, rfl, f2, -, k2⟩
  have f : Fr reM D D2 := (f1.mono (fun q j z => by unfold reM uG; omega)).trans (f2.mono (fun q j z => by unfold reM uG; omega))
  have ff : Fr (fun q j => (93 ≤ q ∧ q ≤ 97) ∨ (187 ≤ q ∧ q ≤ 190) ∨ (q = 152 ∧ (j = 59 ∨ j = 15))) D D2 := (f1.mono (fun q j z => by omega)).trans (f2.mono (fun q j z => by omega))
  have ms : mfilms D1 = mfilms D := mfl_fr f1 (by omega) (fun q j a b => by omega)
  have e904 : D2 93 4 = D1 93 4 := f2 _ _ (by omega)
  have es : filmsv D2 = filmsv D1 := fl_fr f2 (fun q j a b => by omega)
  rw [e57, ms] at k2
  have gg : (D2 93 4 = D2 152 59 ∧ 0 ≤ D2 152 59 ∧ D2 152 59 ≤ 20 ∧ filmsv D2 = mfilms D2 ∧ GIn (mfilms D2)) → Pg7 D2 := fun z => ⟨by rw [ff.obj (o := 20) (fun j => by omega), ff.obj (o := 180) (fun j => by omega)]; exact g1, by rw [ff 4 13 (by omega), ff 152 57 (by omega), sp_fr ff (by omega) (fun j => by omega), msp_fr ff (by omega) (fun j => by omega)]; exact g2, z⟩
  rcases k1 with ⟨g, r1, e1, e2⟩ | ⟨g, r1, e1⟩
  · rcases k2 with ⟨-, r2, q1, q2⟩ | ⟨g', -⟩
    · obtain ⟨hr, ht⟩ := h.newrest t f (gg ⟨by rw [e904, e2, q2]; omega, by rw [q2]; omega, by rw [q2]; omega, by rw [es, e1, q1, s4], by
        rw [q1]
        intro x hx
        rcases List.mem_append.mp hx with z | z
        · exact s5 x z
        · rw [List.mem_singleton.mp z]
          exact g.1.2.2.2⟩)
      exact ⟨by rw [r1, r2]; omega, D2, W, rfl, f.obj (fun j => by unfold reM uG; omega), hr, ht⟩
    · exact absurd ⟨g.1, by rw [← s1]; exact g.2⟩ g'
  · rcases k2 with ⟨g', -⟩ | ⟨-, r2, q1, q2⟩
    · exact absurd ⟨g'.1, by rw [s1]; exact g'.2⟩ g
    · obtain ⟨hr, ht⟩ := h.newrest t f (gg ⟨by rw [e904, e1, q2]; exact s1, by rw [q2]; exact s2, by rw [q2]; exact s3, by rw [es, e1, q1]; exact s4, by rw [q1]; exact s5⟩)
      exact ⟨r1.trans r2.symm, D2, W, rfl, f.obj (fun j => by unfold reM uG; omega), hr, ht⟩
/-! signs -/
def tiM (q : Nat) (j : Int) : Prop := uI q j ∨ (q = 152 ∧ j = 15)
theorem R0.newtext (h : R0 D W N) (t : RT D) (f : Fr tiM D D') (hi : Pi9 D') : R0 D' W (N + 1) ∧ RT D' := by
  obtain ⟨pa, pb, pc, pd, pe, pf, pg, pi⟩ := h
  obtain ⟨c1, c2⟩ := cup_fr f (fun q j z => by unfold uB at z; unfold tiM uI; omega)
  exact ⟨⟨pa.fr f (fun q j z => by unfold uA at z; unfold tiM uI; omega) (by rw [c1]; exact pa.1.1), pb.cg c1 c2, pc.fr f (fun q j z => by unfold uC at z; unfold tiM uI; omega) (by rw [c2]), pd.fr f (fun q j z => by unfold uD at z; unfold tiM uI; omega) (by rw [c2]), pe.fr pa.1 f (fun q j z => by unfold uE at z; unfold tiM uI; omega), pf.fr pa.1 f (fun q j z => by unfold uF at z; unfold tiM uI; omega), pg.fr f (fun q j z => by unfold uG at z; unfold tiM uI; omega), hi⟩, t.fr f (fun q j z => by unfold uT at z; unfold tiM uI; omega)⟩
theorem lst_at {f : Int → Int} {n : Int} {k : Nat} (h : (k : Int) < n) : (lst f n)[k]? = some (f k) := by
  unfold lst
  rw [List.getElem?_map, List.getElem?_range (by omega)]
  rfl
theorem lst_app {f g : Int → Int} {n : Int} {l : List Int} (h0 : 0 ≤ n) (h : lst f (n + l.length) = lst g n ++ l) : (∀ k, 0 ≤ k → k < n → f k = g k) ∧ ∀ (q : Nat) (x : Int), l[q]? = some x → f (n + q) = x := by
  refine ⟨fun k k0 k1 => ?_, fun q x hq => ?_⟩
  · have e := congrArg (fun z => z[k.toNat]?) h
    rw [lst_at (by omega), List.getElem?_append_left (by rw [lst_len]; omega), lst_at (by omega)] at e
    have e := Option.some.inj e
    rw [show ((k.toNat : Nat) : Int) = k by omega] at e
    exact e
  · have hl := (List.getElem?_eq_some_iff.mp hq).1
    have e := congrArg (fun z => z[n.toNat + q]?) h
    rw [lst_at (by omega), List.getElem?_append_right (by rw [lst_len]; omega), lst_len, show n.toNat + q - n.toNat = q by omega, hq] at e
    have e := Option.some.inj e
    rw [show ((n.toNat + q : Nat) : Int) = n + q by omega] at e
    exact e
theorem J_sign (h : R0 D W N) (t : RT D) (hv : w32 v = v) : Both n1 D W N mX9_sign mX10_sign [vi v] := by
  obtain ⟨⟨i1, i2, i3⟩, i4⟩ := h.2.2.2.2.2.2.2
  refine ⟨_, C_sign (d := 213) (by omega) (by omega), ?_⟩
  rintro x1 m1 ⟨D1, rfl, f1, k1⟩
  have e12 : D1 152 12 = D 152 12 := f1 _ _ (by unfold txF; omega)
  have e156 : D1 159 = D 159 := f1.obj (fun j => by unfold txF; omega)
  refine ⟨D1, W, rfl, f1.obj (fun j => by unfold txF; omega), _, C_msign (d := 220) (by rw [e12]; exact i2) (by rw [e12]; exact i3), ?_⟩
  rintro x2 m2 ⟨D2, rfl, -, k2⟩
  rw [e12, e156] at k2
  rcases k1 with ⟨g, r1, e1, e2⟩ | ⟨g, r1, e1⟩
  · rcases k2 with ⟨-, r2, q1, f2, q2, q3⟩ | ⟨g', -⟩
    · have f : Fr tiM D D2 := (f1.mono (fun q j z => by unfold txF at z; unfold tiM uI; omega)).trans (f2.mono (fun q j z => by unfold msF at z; unfold tiM uI; omega))
      have e18 : D2 18 = D1 18 := f2.obj (fun j => by unfold msF; omega)
      have e171 : D2 17 1 = D1 17 1 := f2 _ _ (by unfold msF; omega)
      unfold txtv at e1
      rw [e2] at e1
      obtain ⟨a1, a2⟩ := lst_app (l := [zbyte v 24, zbyte v 16, zbyte v 8, zbyte v 0]) (by omega) e1
      have hb : ∀ q : Int, 0 ≤ q → q < 4 → D1 18 (D 17 1 + q) = zbyte v (24 - 8 * q) := by
        intro q q0 q1
        have c : q = 0 ∨ q = 1 ∨ q = 2 ∨ q = 3 := by omega
        rcases c with rfl | rfl | rfl | rfl
        · exact a2 0 _ rfl
        · exact a2 1 _ rfl
        · exact a2 2 _ rfl
        · exact a2 3 _ rfl
      obtain ⟨hr, ht⟩ := h.newtext t f ⟨⟨by rw [e171, e2, q1]; omega, by rw [q1]; omega, by rw [q1]; omega⟩, fun k k0 k1 => by
        rw [q1] at k1
        rw [e18]
        by_cases z : k < D 152 12
        · rw [q2 k z, a1 k k0 (by omega)]
          exact i4 k k0 z
        · have b1 := hb (k - D 17 1) (by omega) (by omega)
          have b2 := q3 (k - D 152 12) (by omega) (by omega)
          rw [show D 17 1 + (k - D 17 1) = k by omega] at b1
          rw [show D 152 12 + (k - D 152 12) = k by omega] at b2
          rw [← i1] at b2
          obtain ⟨y1, y2, y3⟩ := zbyte_is hv (s := 24 - 8 * (k - D 17 1)) (by omega)
          rw [b1, b2]
          exact ⟨⟨y1, y2⟩, y3.symm⟩⟩
      exact ⟨by rw [r1, r2]; omega, D2, W, rfl, f.obj (fun j => by unfold tiM uI; omega), hr, ht⟩
    · exact absurd (by omega) g'
  · rcases k2 with ⟨g', -⟩ | ⟨-, r2, f2⟩
    · exact absurd (by omega) g
    · subst e1
      obtain ⟨hr, ht⟩ := h.same t f2
      exact ⟨r1.trans r2.symm, D2, W, rfl, f2.obj (fun j => by omega), hr, ht⟩
theorem J_end (h : R0 D W N) (t : RT D) : Both n1 D W N mX9_end mX10_end [vi v] := by
  obtain ⟨⟨i1, i2, i3⟩, i4⟩ := h.2.2.2.2.2.2.2
  refine ⟨_, C_end (d := 213), ?_⟩
  rintro x1 m1 ⟨D1, rfl, f1, k1⟩
  have e12 : D1 152 12 = D 152 12 := f1 _ _ (by omega)
  refine ⟨D1, W, rfl, f1.obj (fun j => by omega), _, C_mend (d := 219), ?_⟩
  rintro x2 m2 ⟨D2, rfl, f2, -, k2⟩
  rw [e12] at k2
  have f : Fr tiM D D2 := (f1.mono (fun q j z => by unfold tiM uI; omega)).trans (f2.mono (fun q j z => by unfold tiM uI; omega))
  have ff : Fr (fun q j => (q = 17 ∧ j = 1) ∨ (q = 152 ∧ (j = 12 ∨ j = 15))) D D2 := (f1.mono (fun q j z => by omega)).trans (f2.mono (fun q j z => by omega))
  have e171 : D2 17 1 = D1 17 1 := f2 _ _ (by omega)
  have e18 : D2 18 = D 18 := ff.obj (fun j => by omega)
  have e156 : D2 159 = D 159 := ff.obj (fun j => by omega)
  rcases k1 with ⟨g, r1, e1⟩ | ⟨g, r1, e1⟩
  · rcases k2 with ⟨-, r2, q1⟩ | ⟨g', -⟩
    · obtain ⟨hr, ht⟩ := h.newtext t f ⟨⟨by rw [e171, e1, q1], by rw [q1]; omega, by rw [q1]; omega⟩, fun k k0 k1 => by rw [q1] at k1; rw [e18, e156]; exact i4 k k0 (by omega)⟩
      exact ⟨r1.trans r2.symm, D2, W, rfl, f.obj (fun j => by unfold tiM uI; omega), hr, ht⟩
    · exact absurd (by omega) g'
  · rcases k2 with ⟨g', -⟩ | ⟨-, r2, q1⟩
    · exact absurd (by omega) g
    · obtain ⟨hr, ht⟩ := h.newtext t f ⟨⟨by rw [e171, e1, q1]; exact i1, by rw [q1]; exact i2, by rw [q1]; exact i3⟩, fun k k0 k1 => by rw [q1] at k1; rw [e18, e156]; exact i4 k k0 k1⟩
      exact ⟨r1.trans r2.symm, D2, W, rfl, f.obj (fun j => by unfold tiM uI; omega), hr, ht⟩
theorem J_count (h : R0 D W N) (t : RT D) : Both n1 D W N mX9_count mX10_count [vi v] := by
  refine ⟨_, C_count (d := 213) h.1.1, ?_⟩
  rintro x1 m1 ⟨r1, rfl⟩
  refine ⟨D, W, rfl, rfl, _, C_mcount (d := 220) h.run.1 h.run.2.2.2.1, ?_⟩
  rintro x2 m2 ⟨D2, rfl, f2, -, r2⟩
  obtain ⟨hr, ht⟩ := h.same t f2
  obtain ⟨-, ⟨s1, -⟩, ⟨s2, -⟩⟩ := h.2.2.2.2.2.2.1
  have s3 : D 4 16 = D 152 14 := congrArg Prod.snd t.1
  refine ⟨?_, D2, W, rfl, f2.obj (fun j => by omega), hr, ht⟩
  rw [r1, r2, h.2.1.1, h.2.2.1.1, s1, s2, s3, h.2.2.2.2.2.2.2.1.1]
end JMW
