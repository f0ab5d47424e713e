/-! ===== law(i), both sides ===== -/
section JLW
variable {n1 : Nat} {D D' : DD} {W W' : Nat → Nat} {N : Int} {a v : Int} {t t' : Int → Int} {en : Int}
/-- where it is well read, it tells something -/
def Lne (f : Ps → Ls) : Prop := ∀ p : Ps, 0 ≤ p.1 → (f p).1.2 = -1 → (f p).2 ≠ []
theorem lname_ne : Lne (lname t en) := by
  intro p h0 h
  unfold lname at h ⊢
  repeat' split
  all_goals first | exact List.cons_ne_nil _ _ | skip
  rename_i c1 c2 c3 c4 c5
  rw [if_neg c1, if_neg c2, if_neg c3, if_neg c4, if_neg c5] at h
  have h : p.1 = -1 := h
  omega
theorem lcore_ne {f : Ps → Ls} {can : Bool} (hf : can = true → Lne f) : Lne (lcore t en f can) := by
  intro p h0 h
  unfold lcore at h ⊢
  by_cases c1 : 48 ≤ pk t en p.1 ∧ pk t en p.1 ≤ 57
  · rw [if_pos c1]
    exact List.cons_ne_nil _ _
  · rw [if_neg c1] at h ⊢
    by_cases c2 : can = true ∧ pk t en p.1 = 40
    · rw [if_pos c2] at h ⊢
      exact hf c2.1 (p.1 + 1, -1) (by show 0 ≤ p.1 + 1; omega) (zneed_g h)
    · rw [if_neg c2] at h ⊢
      exact lname_ne p h0 h
theorem lnegs_0 : ∀ {n : Nat} {p : Ps} {b : Bool}, 0 ≤ p.1 → 0 ≤ (lnegs t en n p b).1.1
  | 0, _, _, h => h
  | n + 1, p, b, h => by
    have e : lnegs t en (n + 1) p b = if zskip t en 45 p = true then lnegs t en n (p.1 + 1, -1) (!b) else (p, b) := rfl
    rw [e]
    split
    · exact lnegs_0 (by show 0 ≤ p.1 + 1; omega)
    · exact h
theorem lthing_ne {f : Ps → Ls} {can : Bool} (hf : can = true → Lne f) : Lne (lthing t en f can) := by
  intro p h0 h
  have q := lcore_ne (t := t) (en := en) hf _ (lnegs_0 (t := t) (en := en) (n := 40) (b := false) h0) h
  show (if _ then _ else _) ≠ []
  split
  · exact List.append_ne_nil_of_left_ne_nil q _
  · exact q
theorem lmore_ne {c1 e1 c2 e2 : Int} {g : Ps → Ls} : ∀ {n : Nat} {x : Ls}, (x.1.2 = -1 → x.2 ≠ []) → (lmore t en c1 e1 c2 e2 g n x).1.2 = -1 → (lmore t en c1 e1 c2 e2 g n x).2 ≠ []
  | 0, _, hx, h => hx h
  | n + 1, x, hx, h => by
    have e : lmore t en c1 e1 c2 e2 g (n + 1) x = if zskip t en c1 x.1 = true then lmore t en c1 e1 c2 e2 g n ((g (x.1.1 + 1, -1)).1, (x.2 ++ (g (x.1.1 + 1, -1)).2) ++ [e1])
      else if zskip t en c2 x.1 = true then lmore t en c1 e1 c2 e2 g n ((g (x.1.1 + 1, -1)).1, (x.2 ++ (g (x.1.1 + 1, -1)).2) ++ [e2]) else x := rfl
    rw [e] at h ⊢
    split
    · rename_i c
      rw [if_pos c] at h
      exact lmore_ne (fun _ => List.append_ne_nil_of_right_ne_nil _ (List.cons_ne_nil _ _)) h
    · rename_i c
      rw [if_neg c] at h
      split
      · rename_i c'
        rw [if_pos c'] at h
        exact lmore_ne (fun _ => List.append_ne_nil_of_right_ne_nil _ (List.cons_ne_nil _ _)) h
      · rename_i c'
        rw [if_neg c'] at h
        exact hx h
theorem lsp_ne {g : Ps → Ls} (hg : Lne g) : Lne (lsum t en (lprod t en g)) := fun p h0 h => lmore_ne (fun z => lmore_ne (fun y => hg p h0 y) z) h
theorem lS_ne : ∀ {k : Nat}, Lne (lS t en k)
  | 0 => lsp_ne (lthing_ne (fun z => by cases z))
  | _ + 1 => lsp_ne (lthing_ne (fun _ => lS_ne))
theorem zlawr_ne (h0 : 0 < en) (h : (zlawr t en).1.2 = -1) : (zlawr t en).2 ≠ [] := by
  unfold zlawr at h ⊢
  rw [if_pos h0] at h ⊢
  exact lS_ne (0, -1) (Int.le_refl _) h
theorem zl_same (h : Pi9 D) : zlFin (D 159) (D 152 12) = zlFin (D 18) (D 17 1) ∧ zlawr (D 159) (min (D 152 12) 40) = zlawr (D 18) (min (D 17 1) 40) := by
  have e : zlawr (D 18) (min (D 17 1) 40) = zlawr (D 159) (min (D 152 12) 40) := by
    rw [h.1.1]
    exact (h.tal (by omega)).law
  refine ⟨?_, e.symm⟩
  unfold zlFin
  rw [e, h.1.1]
theorem zlawr_ext (h : ∀ k, 0 ≤ k → k < en → t k = t' k) : zlawr t en = zlawr t' en := by
  have e : Tal t t' en := fun a => by
    refine Or.inl ?_
    unfold pk
    by_cases z : 0 ≤ a ∧ a < en
    · rw [if_pos z, if_pos z, h a z.1 z.2]
    · rw [if_neg z, if_neg z]
  exact e.law
theorem J_law (h : R0 D W N) (tt : RT D) : Both n1 D W N mX9_law mX10_law [vi a] := by
  obtain ⟨pa, pb, pc, pd, pe, pf, pg, pi⟩ := h
  obtain ⟨⟨i1, i2, i3⟩, i4⟩ := id pi
  have l8 := pa.1.2.2.1 8 (by decide) (by decide)
  have l8' := l8
  unfold lawId at l8
  refine ⟨_, C_law (d := 200) (t := D 18) pa.1 (by omega) (by omega) (fun _ _ _ => rfl), ?_⟩
  rintro x1 m1 ⟨D1, W1, rfl, f1, e171, k1⟩
  have m : ∀ q, 152 ≤ q → D1 q = D q := fun q hq => f1.obj (fun j => by omega)
  refine ⟨D1, W1, rfl, f1.obj (fun j => by omega), _, C_mlaw (d := 93) (t := D 159) (by rw [m 152 (by decide)]; exact i2) (by rw [m 152 (by decide)]; exact i3) (fun k _ _ => by rw [m 159 (by decide)]) (fun k k0 k1 => by
    rw [m 152 (by decide)] at k1
    rw [(i4 k k0 k1).2]
    unfold w8
    omega), ?_⟩
  rintro x2 m2 ⟨D2, rfl, e12, -, k2⟩
  rw [m 152 (by decide)] at k2
  obtain ⟨zs1, zs2⟩ := zl_same pi
  have main : (W1 = W ∧ x1 = x2 ∧ Fr lm0 D1 D2) ∨ ((0 ≤ a ∧ a ≤ 2) ∧ zlFin (D 18) (D 17 1) = -1 ∧ x1 = x2 ∧ W1 = uW (uW W (5 + a.toNat) (W 8)) 8 (W (5 + a.toNat)) ∧ (lawv D1 (W 8) = (zlawr (D 18) (min (D 17 1) 40)).2 ∧ (0 ≤ D1 (W 8) 2 ∧ D1 (W 8) 2 ≤ 40)) ∧ (D 152 12 ≤ 40 ∧ D2 175 a = D 152 12 ∧ (∀ k, 0 ≤ k → k < D 152 12 → D2 (172 + a.toNat) k = D 159 k)) ∧ Fr (lmS a) D1 D2) := by
    rw [zs1] at k2
    rcases k1 with ⟨g, r1, e1⟩ | ⟨g, z, r1, e1⟩ | ⟨g, z, r1, e1, e2⟩
    · rcases k2 with ⟨-, r2, f2⟩ | ⟨g', -⟩ | ⟨g', -⟩
      · exact Or.inl ⟨e1, r1.trans r2.symm, f2⟩
      · exact absurd g' g
      · exact absurd g' g
    · rcases k2 with ⟨g', -⟩ | ⟨-, -, r2, f2⟩ | ⟨-, z', -⟩
      · exact absurd g g'
      · exact Or.inl ⟨e1, r1.trans r2.symm, f2⟩
      · exact absurd z' z
    · rcases k2 with ⟨g', -⟩ | ⟨-, z', -⟩ | ⟨-, -, r2, q2, q3, q4, f2⟩
      · exact absurd g g'
      · exact absurd z z'
      · exact Or.inr ⟨g, z, r1.trans r2.symm, e1, e2, ⟨q2, q3, q4⟩, f2⟩
  rcases main with ⟨eW, er, f2⟩ | ⟨g, z, er, eW, ⟨kx, kb⟩, ⟨km1, km2, km3⟩, f2⟩
  · subst eW
    have f : Fr (fun q j => (q = 17 ∨ (W1 8 ≤ q ∧ q ≤ W1 8 + 1)) ∨ lm0 q j) D D2 := (f1.mono (fun q j z => Or.inl z)).trans (f2.mono (fun q j z => Or.inr z))
    have e2 : ∀ q, q < 152 → D2 q = D1 q := fun q hq => f2.obj (fun j => by unfold lm0; omega)
    obtain ⟨c1, c2⟩ := cup_fr f (fun q j z => by unfold uB at z; unfold lm0; omega)
    have lw : lawsv D2 W1 = lawsv D W1 := by
      have l0 : lawsv D2 W1 = lawsv D1 W1 := laws_fr f2 pa.1.2.2.1 (fun _ _ => rfl) (fun q j z => by unfold lm0; omega)
      rw [l0]
      funext l
      unfold lawsv
      have e5 : ∀ l : Int, 0 ≤ l ∧ l ≤ 2 → D1 (W1 (5 + l.toNat)) = D (W1 (5 + l.toNat)) ∧ D1 (W1 (5 + l.toNat) + 1) = D (W1 (5 + l.toNat) + 1) := fun l hl => by
        have q := pa.1.2.2.1 (5 + l.toNat) (by omega) (by omega)
        have ne : W1 (5 + l.toNat) ≠ W1 8 := fun z' => by
          have := pa.2.1.2 (5 + l.toNat) 8 (by omega) (by omega) (by decide) (by decide) z'
          omega
        unfold lawId at q
        exact ⟨f1.obj (fun j => by omega), f1.obj (fun j => by omega)⟩
      unfold tlaw
      by_cases hl : 0 ≤ l ∧ l ≤ 2
      · obtain ⟨y1, y2⟩ := e5 l hl
        rw [y1]
        split
        · unfold lawO lawv
          rw [y1, y2]
        · rfl
      · rw [if_neg (fun z => hl z.1), if_neg (fun z => hl z.1)]
        rfl
    have r : R0 D2 W1 (N + 1) := ⟨pa.fr f (fun q j z => by unfold uA at z; unfold lm0; omega) (by rw [c1]; exact pa.1.1), pb.cg c1 c2,
      pc.fr f (fun q j z => by unfold uC at z; unfold lm0; omega) (by rw [c2]), pd.fr f (fun q j z => by unfold uD at z; unfold lm0; omega) (by rw [c2]), pe.fr pa.1 f (fun q j z => by unfold uE at z; unfold lm0; omega),
      pf.cg lw (f.obj (fun j => by unfold lm0; omega)) (fun l hl => f.obj (fun j => by unfold lm0; omega)), pg.fr f (fun q j z => by unfold uG at z; unfold lm0; omega), Pi9.nil (by rw [e2 17 (by decide)]; exact e171) e12⟩
    exact ⟨er, D2, uW W1 12 159, rfl, f.obj (fun j => by unfold lm0; omega), r.vW (fun i hi => uW_ne (by omega)), tt.fr f (fun q j z => by unfold uT at z; unfold lm0; omega)⟩
  · subst eW
    have hp8 : 5 + a.toNat ≠ 8 := by omega
    have f : Fr (fun q j => (q = 17 ∨ (W 8 ≤ q ∧ q ≤ W 8 + 1)) ∨ lmS a q j) D D2 := (f1.mono (fun q j z => Or.inl z)).trans (f2.mono (fun q j z => Or.inr z))
    have e2 : ∀ q, q < 152 → D2 q = D1 q := fun q hq => f2.obj (fun j => by unfold lmS lm0; omega)
    obtain ⟨c1, c2⟩ := cup_fr f (fun q j z => by unfold uB at z; unfold lmS lm0; omega)
    have paW : Pa D2 W := pa.fr f (fun q j z => by unfold uA at z; unfold lmS lm0; omega) (by rw [c1]; exact pa.1.1)
    have peW : Pe D2 W := pe.fr pa.1 f (fun q j z => by unfold uE at z; unfold lmS lm0; omega)
    have lawI := fun i i5 i9 => pa.1.2.2.1 i i5 i9
    have nm : min (D 17 1) 40 = D 152 12 := by omega
    have nm' : min (D 152 12) 40 = D 152 12 := by omega
    rw [nm] at kx
    rw [nm', nm] at zs2
    obtain ⟨zf, hz⟩ : ∃ zf, zf = uW (uW W (5 + a.toNat) (W 8)) 8 (W (5 + a.toNat)) := ⟨_, rfl⟩
    have zf_at : ∀ i, zf i = W (if i = 5 + a.toNat then 8 else if i = 8 then 5 + a.toNat else i) := fun i => by rw [hz]; exact swap_is hp8
    have pfn : Pf D2 zf := by
      intro l
      have old : ∀ l : Int, 0 ≤ l ∧ l ≤ 2 → l ≠ a → D2 (W (5 + l.toNat)) = D (W (5 + l.toNat)) ∧ D2 (W (5 + l.toNat) + 1) = D (W (5 + l.toNat) + 1) := fun l hl hne => by
        have q := lawI (5 + l.toNat) (by omega) (by omega)
        have ne : W (5 + l.toNat) ≠ W 8 := fun z' => by
          have := pa.2.1.2 (5 + l.toNat) 8 (by omega) (by omega) (by decide) (by decide) z'
          omega
        unfold lawId at q
        exact ⟨f.obj (fun j => by unfold lmS lm0; omega), f.obj (fun j => by unfold lmS lm0; omega)⟩
      by_cases hl : 0 ≤ l ∧ l ≤ 2
      · by_cases e : l = a
        · subst e
          have y1 : D2 (W 8) = D1 (W 8) := e2 _ (by omega)
          have y2 : D2 (W 8 + 1) = D1 (W 8 + 1) := e2 _ (by omega)
          have zz : zf (5 + l.toNat) = W 8 := by rw [zf_at, if_pos rfl]
          have lv : lawv D2 (W 8) = (zlawr (D 18) (D 152 12)).2 := by
            rw [← kx]
            unfold lawv
            rw [y1, y2]
          have zx : zlawr (D2 (172 + l.toNat)) (D 152 12) = zlawr (D 18) (D 152 12) := by
            rw [← zs2]
            exact zlawr_ext (fun k k0 k1 => km3 k k0 k1)
          have lenv : (lawv D2 (W 8)).length = (D1 (W 8) 2).toNat := by
            unfold lawv
            rw [lst_len, y1]
            omega
          rw [km2]
          by_cases n1' : 1 ≤ D 152 12
          · rw [if_pos ⟨hl, n1'⟩, zx]
            have zg := zfin_good z
            rw [nm] at zg
            have ne := zlawr_ne (t := D 18) (en := D 152 12) (by omega) zg
            have pos : 0 < D1 (W 8) 2 := by
              have : (lawv D2 (W 8)).length ≠ 0 := by
                rw [lv]
                exact fun y => ne (List.length_eq_zero_iff.mp y)
              omega
            refine ⟨km1, ?_, ?_⟩
            · unfold zlFin at z ⊢
              rw [nm'] 
              rw [nm, i1] at z
              rw [zx]
              exact z
            · unfold lawsv tlaw
              rw [zz, y1, if_pos ⟨hl, pos⟩]
              unfold lawO
              rw [if_neg (by omega), lv]
          · rw [if_neg (fun y => n1' y.2)]
            have zn : zlawr (D 18) (D 152 12) = ((0, -1), []) := if_neg (by omega)
            have : ¬ 0 < D1 (W 8) 2 := by
              have : (lawv D2 (W 8)).length = 0 := by rw [lv, zn]; rfl
              omega
            unfold lawsv tlaw
            rw [zz, y1, if_neg (fun y => this y.2)]
            rfl
        · obtain ⟨y1, y2⟩ := old l hl e
          have zz : zf (5 + l.toNat) = W (5 + l.toNat) := by rw [zf_at, if_neg (by omega), if_neg (by omega)]
          have q := pf l
          have e172 : D2 175 l = D 175 l := f _ _ (by unfold lmS lm0; omega)
          have e169 : D2 (172 + l.toNat) = D (172 + l.toNat) := f.obj (fun j => by unfold lmS lm0; omega)
          have el : lawsv D2 zf l = lawsv D W l := by
            unfold lawsv tlaw
            rw [zz, y1]
            split
            · unfold lawO lawv
              rw [y1, y2]
            · rfl
          rw [e172, e169, el]
          exact q
      · rw [if_neg (fun y => hl y.1)]
        unfold lawsv tlaw
        rw [if_neg (fun y => hl y.1)]
        rfl
    have r : R0 D2 zf (N + 1) := by
      refine ⟨by rw [hz]; exact ⟨paW.1.swap hp8 (Or.inr ⟨⟨by omega, by omega⟩, by decide, by decide⟩), paW.2.1.swap hp8 (Or.inr ⟨⟨by omega, by omega⟩, by decide, by decide⟩), paW.2.2⟩, pb.cg c1 c2,
        pc.fr f (fun q j z => by unfold uC at z; unfold lmS lm0; omega) (by rw [c2]), pd.fr f (fun q j z => by unfold uD at z; unfold lmS lm0; omega) (by rw [c2]), fun b b0 b1 => ?_, pfn, pg.fr f (fun q j z => by unfold uG at z; unfold lmS lm0; omega), Pi9.nil (by rw [e2 17 (by decide)]; exact e171) e12⟩
      unfold wsv
      rw [zf_at, if_neg (by omega), if_neg (by omega)]
      exact peW b b0 b1
    rw [← hz]
    exact ⟨er, D2, _, rfl, f.obj (fun j => by unfold lmS lm0; omega), r.vW (fun i hi => uW_ne (by omega)), tt.fr f (fun q j z => by unfold uT at z; unfold lmS lm0; omega)⟩
end JLW
