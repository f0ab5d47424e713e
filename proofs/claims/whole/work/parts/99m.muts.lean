/-! ===== what is kept, packet by packet, over a frame ===== -/
def uA (q : Nat) (j : Int) : Prop := q = 2 ∨ q = 3 ∨ ((q = 21 ∨ (123 ≤ q ∧ q ≤ 142)) ∧ j = 4)
def uB (q : Nat) (j : Int) : Prop := (5 ≤ q ∧ q ≤ 7) ∨ (q = 152 ∧ 0 ≤ j ∧ j ≤ 2) ∨ q = 153 ∨ q = 154
def uC (q : Nat) (j : Int) : Prop := (8 ≤ q ∧ q ≤ 15) ∨ (q = 152 ∧ (j = 5 ∨ j = 10)) ∨ (155 ≤ q ∧ q ≤ 158)
def uD (q : Nat) (j : Int) : Prop := (q = 4 ∧ j = 3) ∨ q = 191 ∨ q = 192 ∨ (q = 152 ∧ j = 16) ∨ (99 ≤ q ∧ q ≤ 122) ∨ (q = 177 ∧ j < 315)
def uE (q : Nat) (_ : Int) : Prop := (21 ≤ q ∧ q ≤ 25) ∨ (123 ≤ q ∧ q ≤ 142) ∨ (161 ≤ q ∧ q ≤ 166)
def uF (q : Nat) (_ : Int) : Prop := q = 27 ∨ q = 28 ∨ q = 143 ∨ q = 144 ∨ q = 146 ∨ q = 147 ∨ q = 149 ∨ q = 150 ∨ (172 ≤ q ∧ q ≤ 175)
def uG (q : Nat) (j : Int) : Prop := q = 20 ∨ q = 180 ∨ (q = 4 ∧ j = 13) ∨ (q = 152 ∧ (j = 57 ∨ j = 59)) ∨ q = 92 ∨ q = 186 ∨ (93 ≤ q ∧ q ≤ 97) ∨ (187 ≤ q ∧ q ≤ 190)
def uI (q : Nat) (j : Int) : Prop := (q = 17 ∧ j = 1) ∨ q = 18 ∨ (q = 152 ∧ j = 12) ∨ q = 159
def uT (q : Nat) (j : Int) : Prop := (q = 4 ∧ j = 16) ∨ q = 98 ∨ (q = 152 ∧ j = 14) ∨ q = 160
section FRP
variable {F : Nat → Int → Prop} {D D' : DD} {W : Nat → Nat} {N : Int}
theorem GS.cl {c c' : Cv} {s : Sv} (h : GS c s N) (e : cLast c' = cLast c) : GS c' s N := by
  obtain ⟨h1, ⟨h2, h3⟩, h4⟩ := h
  exact ⟨h1, ⟨by rw [e]; exact h2, by rw [e]; exact h3⟩, h4⟩
theorem Pa.fr (h : Pa D W) (f : Fr F D D') (n : ∀ q j, uA q j → ¬ F q j) (hc : COK (cupv D' 5)) : Pa D' W := by
  obtain ⟨⟨a1, a2, a3, a4⟩, b, c⟩ := h
  refine ⟨⟨hc, a2, a3, fun i hi => ?_⟩, b, ?_⟩
  · have q := a2 i hi
    unfold walkId at q
    rw [f (W i) 4 (n _ _ (by unfold uA; omega))]
    exact a4 i hi
  · unfold SOKd at *
    rw [f.obj (fun j => n 2 j (Or.inl rfl)), f.obj (fun j => n 3 j (Or.inr (Or.inl rfl)))]
    exact c
theorem cup_fr (f : Fr F D D') (n : ∀ q j, uB q j → ¬ F q j) : cupv D' 5 = cupv D 5 ∧ mcup D' = mcup D :=
  ⟨cupv_fr f (fun q j a b => n q j (by unfold uB; omega)), mcup_fr f (fun j a b => n _ _ (by unfold uB; omega)) (fun q j a b => n q j (by unfold uB; omega))⟩
theorem Pb.fr (h : Pb D) (f : Fr F D D') (n : ∀ q j, uB q j → ¬ F q j) : Pb D' := h.cg (cup_fr f n).1 (cup_fr f n).2
theorem Pc.fr (h : Pc D N) (f : Fr F D D') (n : ∀ q j, uC q j → ¬ F q j) (hc : cLast (mcup D') = cLast (mcup D)) : Pc D' (N + 1) := by
  have e1 : stv D' 8 = stv D 8 := stv_fr f (fun q j a b => n q j (by unfold uC; omega))
  have e2 : mst D' = mst D := mst_fr f (n _ _ (by unfold uC; omega)) (n _ _ (by unfold uC; omega)) (fun q j a b => n q j (by unfold uC; omega))
  unfold Pc at *
  rw [e1, e2]
  exact ⟨h.1, (h.2.mono (by omega)).cl hc⟩
theorem Pd.fr (h : Pd D N) (f : Fr F D D') (n : ∀ q j, uD q j → ¬ F q j) (hc : cLast (mcup D') = cLast (mcup D)) : Pd D' (N + 1) := by
  have e1 : D' 4 3 = D 4 3 := f _ _ (n _ _ (by unfold uD; omega))
  have e3 : D' 152 16 = D 152 16 := f _ _ (n _ _ (by unfold uD; omega))
  refine ⟨by rw [e3]; exact ⟨h.1.1, by have := h.1.2; omega⟩, by rw [e1]; exact h.2.1, fun i i0 i1 => ?_⟩
  obtain ⟨a, b, c⟩ := h.2.2 i i0 i1
  have f1 : D' 191 i = D 191 i := f _ _ (n _ _ (by unfold uD; omega))
  have f2 : D' 192 i = D 192 i := f _ _ (n _ _ (by unfold uD; omega))
  have f3 : stv D' (99 + 8 * i.toNat) = stv D (99 + 8 * i.toNat) := stv_fr f (fun q j a b => n q j (by unfold uD; omega))
  have f4 : mkv D' 177 (105 * i) = mkv D 177 (105 * i) := mkv_fr f (fun j a b => n _ _ (by unfold uD; omega))
  unfold Pd1
  rw [e1, f1, f2, f3, f4, e3]
  exact ⟨a, fun z => ⟨(b z).1, ((b z).2.mono (by omega)).cl hc⟩, c⟩
theorem wsv_fr {a : Int} (hm : ∀ i, i < 5 → walkId (W i)) (f : Fr F D D') (n : ∀ q j, uE q j → ¬ F q j) (a0 : 0 ≤ a) (a1 : a ≤ 3) : wsv D' W a = wsv D W a := by
  have q := hm a.toNat (by omega)
  unfold walkId at q
  exact wkv_fr f (fun q j x y => n q j (by unfold uE; omega))
theorem Pe.fr (h : Pe D W) (hm : MP D W) (f : Fr F D D') (n : ∀ q j, uE q j → ¬ F q j) : Pe D' W :=
  h.cg (fun a a0 a1 => wsv_fr hm.2.1 f n a0 a1) (fun a a0 a1 => wkm_fr f (fun q j x y => n q j (by unfold uE; omega)))
theorem Pf.fr (h : Pf D W) (hm : MP D W) (f : Fr F D D') (n : ∀ q j, uF q j → ¬ F q j) : Pf D' W :=
  h.cg (laws_fr f hm.2.2.1 (fun _ _ => rfl) (fun q j z => n q j (by unfold uF; omega))) (f.obj (fun j => n _ _ (by unfold uF; omega))) (fun l hl => f.obj (fun j => n _ _ (by unfold uF; omega)))
theorem Pg7.fr (h : Pg7 D) (f : Fr F D D') (n : ∀ q j, uG q j → ¬ F q j) : Pg7 D' :=
  h.cg (f.obj (fun j => n _ _ (by unfold uG; omega))) (f.obj (fun j => n _ _ (by unfold uG; omega))) (f _ _ (n _ _ (by unfold uG; omega))) (f _ _ (n _ _ (by unfold uG; omega)))
    (sp_fr f (n _ _ (by unfold uG; omega)) (fun j => n _ _ (by unfold uG; omega))) (msp_fr f (n _ _ (by unfold uG; omega)) (fun j => n _ _ (by unfold uG; omega))) (f _ _ (n _ _ (by unfold uG; omega))) (f _ _ (n _ _ (by unfold uG; omega)))
    (fl_fr f (fun q j a b => n q j (by unfold uG; omega))) (mfl_fr f (n _ _ (by unfold uG; omega)) (fun q j a b => n q j (by unfold uG; omega)))
theorem Pi9.fr (h : Pi9 D) (f : Fr F D D') (n : ∀ q j, uI q j → ¬ F q j) : Pi9 D' :=
  h.cg (f _ _ (n _ _ (by unfold uI; omega))) (f _ _ (n _ _ (by unfold uI; omega))) (f.obj (fun j => n _ _ (by unfold uI; omega))) (f.obj (fun j => n _ _ (by unfold uI; omega)))
theorem RT.fr (h : RT D) (f : Fr F D D') (n : ∀ q j, uT q j → ¬ F q j) : RT D' :=
  h.cg (tv_fr f (n _ _ (by unfold uT; omega)) (fun j => n _ _ (by unfold uT; omega))) (mtv_fr f (n _ _ (by unfold uT; omega)) (fun j => n _ _ (by unfold uT; omega)))
theorem COK_set2 {c : Cv} {a v : Int} (hc : COK c) (ha : 0 ≤ a ∧ a ≤ 6) (hv : zlo a ≤ v ∧ v ≤ zhi a) : COK (zSet c a v) := by
  obtain ⟨c1, c2, c3, c4, c5, c6, c7, c8, c9, c10, c11, c12, c13, c14⟩ := hc
  have e : ∀ k, cSet (zSet c a v) k = if k = a then v else cSet c k := fun k => rfl
  refine ⟨c1, c2, c3, c4, c5, c6, ?_, ?_, ?_, ?_, ?_, ?_, ?_, c14⟩
  all_goals
    rw [e]
    unfold zlo zhi at hv
    split
    · subst a
      simp at hv
      omega
    · assumption
theorem zcup_COK {c : Cv} {a b f : Int} (hc : COK c) (h : okCup a b f) : COK (zcup c a b f) ∧ HO (zcup c a b f) := by
  obtain ⟨c1, c2, c3, c4, c5, c6, c7, c8, c9, c10, c11, c12, c13, c14⟩ := hc
  obtain ⟨⟨a1, a2⟩, ⟨b1, b2⟩, f1, f2⟩ := h
  refine ⟨⟨by show 1 ≤ a - 1; omega, by show a - 1 ≤ 19; omega, b1, b2, f1, f2, c7, c8, c9, c10, c11, c12, c13, fun j j0 j1 => ?_⟩, fun k k0 k1 => ?_⟩
  · have e : cHole (zcup c a b f) j = 100 := if_pos ⟨j0, j1⟩
    rw [e]
    exact ⟨by decide, by decide⟩
  · have k0 : a - 1 ≤ k := k0
    exact if_pos ⟨by omega, k1⟩
theorem HO_hole {c : Cv} {g v : Int} (h : HO c) (g1 : g ≤ cLast c - 1) : HO (zHole c g v) := by
  intro k k0 k1
  have k0 : cLast c ≤ k := k0
  show zu (cHole c) g v k = 100
  rw [zu_ne (by omega)]
  exact h k k0 k1
theorem zsh_rng {k n f st g : Int} : 0 ≤ zsh k n f st g ∧ zsh k n f st g ≤ 100 := by
  unfold zsh
  split
  · exact ⟨by decide, by decide⟩
  · unfold btw
    omega
theorem zsheet_ok {c : Cv} {k n f st : Int} (hc : COK c) (h : HO c) : COK (zsheetC c k n f st) ∧ HO (zsheetC c k n f st) ∧ cLast (zsheetC c k n f st) = cLast c := by
  have h0 := hc
  obtain ⟨c1, c2, c3, c4, c5, c6, c7, c8, c9, c10, c11, c12, c13, c14⟩ := h0
  unfold zsheetC
  split
  · split
    · refine ⟨⟨c1, c2, c3, c4, c5, c6, c7, c8, c9, c10, c11, c12, c13, fun j j0 j1 => ?_⟩, fun k k0 k1 => ?_, rfl⟩
      · have e : cHole (zOpen c) j = 100 := if_pos ⟨j0, j1⟩
        rw [e]
        exact ⟨by decide, by decide⟩
      · have k0 : cLast c ≤ k := k0
        exact if_pos ⟨by omega, k1⟩
    · split
      · refine ⟨⟨c1, c2, c3, c4, c5, c6, c7, c8, c9, c10, c11, c12, c13, fun j j0 j1 => ?_⟩, fun k' k0 k1 => ?_, rfl⟩
        · show 0 ≤ zsheetH c k n f st j ∧ zsheetH c k n f st j ≤ 100
          unfold zsheetH
          split
          · exact zsh_rng
          · exact c14 j j0 j1
        · have k0 : cLast c ≤ k' := k0
          show zsheetH c k n f st k' = 100
          unfold zsheetH
          rw [if_neg (by omega)]
          exact h k' k0 k1
      · exact ⟨hc, h, rfl⟩
  · exact ⟨hc, h, rfl⟩
end FRP
