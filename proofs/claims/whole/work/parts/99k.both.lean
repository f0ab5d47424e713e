/-! ===== the asking calls, both sides ===== -/
def WE (ws ws' : Int → Wv) : Prop := ∀ a, 0 ≤ a → a ≤ 3 → ws a = ws' a
def T4 (S : Int × Option (List Int)) : Prop := ∀ l, S.2 = some l → l.length ≤ 4
theorem T4.n {x : Int} : T4 (x, none) := fun l h => by cases h
theorem T4.s {x : Int} {l : List Int} (h : l.length ≤ 4) : T4 (x, some l) := fun l' e => by cases e; exact h
theorem T4.ite {p : Prop} [Decidable p] {a b : Int × Option (List Int)} (ha : T4 a) (hb : T4 b) : T4 (if p then a else b) := by
  split
  · exact ha
  · exact hb
section SWE
variable {c : Cv} {L : Option (List Int)} {lw : Int → Option (List Int)} {ws ws' : Int → Wv} {a v : Int}
theorem ite_we {α : Type} {p : Prop} [Decidable p] {x x' y : α} (h : p → x = x') : (if p then x else y) = if p then x' else y := by
  split
  · rename_i z
    exact h z
  · rfl
theorem we_would (h : WE ws ws') : S_would c L ws a v = S_would c L ws' a v := ite_we (fun z => by rw [h a z.1 z.2])
theorem we_full (h : WE ws ws') : S_full c L ws a = S_full c L ws' a := by unfold S_full; rw [ite_we (fun z : 0 ≤ a ∧ a ≤ 3 => by rw [h a z.1 z.2])]
theorem we_layers (h : WE ws ws') : S_layers c L ws a = S_layers c L ws' a := by unfold S_layers; rw [ite_we (fun z : 0 ≤ a ∧ a ≤ 3 => by rw [h a z.1 z.2])]
theorem we_lid (h : WE ws ws') : S_lid c L ws a v = S_lid c L ws' a v := by unfold S_lid; rw [ite_we (fun z : (0 ≤ a ∧ a ≤ 3) ∧ (0 ≤ v ∧ v ≤ 9999) => by rw [h a z.1.1 z.1.2])]
theorem we_best (h : WE ws ws') : S_best c L ws a v = S_best c L ws' a v := ite_we (fun z => by rw [h a z.1.1 z.1.2])
theorem we_turn (h : WE ws ws') : S_turn c L ws a v = S_turn c L ws' a v := ite_we (fun z => by rw [h a z.1.1 z.1.2])
theorem we_door (h : WE ws ws') : S_door c L ws a = S_door c L ws' a := ite_we (fun z => by rw [h a z.1 z.2])
theorem we_two (h : WE ws ws') : S_two c L ws a = S_two c L ws' a := ite_we (fun z => by rw [h a z.1 z.2])
theorem we_pause (h : WE ws ws') : S_pause c L ws a v = S_pause c L ws' a v := ite_we (fun z => by rw [h a z.1.1 z.1.2])
theorem we_far {sp : List Int} (h : WE ws ws') : S_far c lw ws sp a v = S_far c lw ws' sp a v := by unfold S_far; rw [ite_we (fun z : (0 ≤ a ∧ a ≤ 3) ∧ (v = 3 ∨ (lw v).isSome = true) => by rw [h a z.1.1 z.1.2])]
theorem we_helps (h : WE ws ws') : S_helps c lw ws a v = S_helps c lw ws' a v := ite_we (fun z => by rw [h a z.1.1 z.1.2])
theorem we_odds (h : WE ws ws') : S_odds c L ws a v = S_odds c L ws' a v := ite_we (fun z => by rw [h a z.1.1 z.1.2])
theorem we_few (h : WE ws ws') : S_few c L ws a v = S_few c L ws' a v := ite_we (fun z => by rw [h a z.1.1 z.1.2])
theorem we_steps (h : WE ws ws') : S_steps ws a = S_steps ws' a := ite_we (fun z => by rw [h a z.1 z.2])
theorem we_zwho {sp : List Int} (h : WE ws ws') : ∀ n : Nat, n ≤ 16 → zwho c lw ws sp n = zwho c lw ws' sp n
  | 0, _ => rfl
  | n + 1, hn => by
    show zwho1 c lw ws sp (n / 4 : Nat) (n % 4 : Nat) (zwho c lw ws sp n) = zwho1 c lw ws' sp (n / 4 : Nat) (n % 4 : Nat) (zwho c lw ws' sp n)
    rw [we_zwho h n (by omega)]
    unfold zwho1
    rw [h ((n / 4 : Nat) : Int) (by omega) (by omega)]
theorem we_who {sp : List Int} (h : WE ws ws') : S_who c lw ws sp = S_who c lw ws' sp := by unfold S_who; rw [we_zwho h 16 (by decide)]
theorem we_zall (h : WE ws ws') : ∀ n : Nat, n ≤ 4 → zall c L ws v n = zall c L ws' v n
  | 0, _ => rfl
  | n + 1, hn => by
    show (zall c L ws v n && (decide (bAnd (bShr v n) 1 = 0) || decide (oSum (zOn c L (ws n) 1) = 0))) = _
    rw [we_zall h n (by omega), h (n : Int) (by omega) (by omega)]
    rfl
theorem we_form (h : WE ws ws') : S_form c L ws v = S_form c L ws' v := by
  unfold S_form
  have e : (fun k : Int => zall (zform c k) L ws v 4) = fun k => zall (zform c k) L ws' v 4 := by funext k; exact we_zall h 4 (by decide)
  rw [e]
theorem we_zlp {s s' : Int → Bst → Bst} (h : ∀ i, 0 ≤ i → i < 4 → ∀ b, s i b = s' i b) : ∀ (n : Nat) (b : Bst), n ≤ 4 → zlp s n b = zlp s' n b
  | 0, _, _ => rfl
  | n + 1, b, hn => by
    show s n (zlp s n b) = s' n (zlp s' n b)
    rw [we_zlp h n b (by omega)]
    exact h n (by omega) (by omega) _
theorem we_zext {mets mets' : Int → Int} {goal : Int} (h : WE ws ws') (hm : ∀ j, 0 ≤ j → j < 4 → mets j = mets' j) : ∀ (f : Nat) (s : Sv) (row : List Int) (led tk : Int) (b : Bst), zext c L ws mets goal f s row led tk b = zext c L ws' mets' goal f s row led tk b
  | 0, _, _, _, _, _ => rfl
  | f + 1, s, row, led, tk, b => by
    show zlp (zst1 c L ws mets goal (zext c L ws mets goal f) s row led tk) 4 b = zlp (zst1 c L ws' mets' goal (zext c L ws' mets' goal f) s row led tk) 4 b
    refine we_zlp (fun i i0 i1 b => ?_) 4 b (by decide)
    unfold zst1
    rw [h i i0 (by omega), hm i i0 i1, we_zext h hm f]
theorem we_plan {mets mets' : Int → Int} (h : WE ws ws') (hm : ∀ j, 0 ≤ j → j < 4 → mets j = mets' j) : S_plan c L ws mets v = S_plan c L ws' mets' v := by
  unfold S_plan
  rw [we_zext h hm]
theorem zlp_le {s : Int → Bst → Bst} (h : ∀ i b, b.2.length ≤ 4 → (s i b).2.length ≤ 4) : ∀ (n : Nat) (b : Bst), b.2.length ≤ 4 → (zlp s n b).2.length ≤ 4
  | 0, _, hb => hb
  | n + 1, b, hb => h _ _ (zlp_le h n b hb)
theorem zext_le {mets : Int → Int} {goal : Int} : ∀ (f : Nat) (s : Sv) (row : List Int) (led tk : Int) (b : Bst), row.length + f ≤ 4 → b.2.length ≤ 4 → (zext c L ws mets goal f s row led tk b).2.length ≤ 4
  | 0, _, _, _, _, _, _, hb => hb
  | f + 1, s, row, led, tk, b, hr, hb => by
    show (zlp (zst1 c L ws mets goal (zext c L ws mets goal f) s row led tk) 4 b).2.length ≤ 4
    refine zlp_le (fun i b hb => ?_) 4 b hb
    unfold zst1
    split
    · exact hb
    · split
      · exact hb
      · split
        · split
          · show (row ++ [i]).length ≤ 4
            rw [List.length_append, List.length_singleton]
            omega
          · exact zext_le f _ _ _ _ _ (by rw [List.length_append, List.length_singleton]; omega) hb
        · exact hb
theorem t4_plan {mets : Int → Int} : T4 (S_plan c L ws mets v) := T4.ite (T4.ite T4.n (T4.s (zext_le 4 _ _ _ _ _ (by decide) (by decide)))) T4.n
theorem zstop_T4 {sp : Int} : ∀ (n : Nat) (k : Int), T4 (zstop c sp n k)
  | 0, _ => by
    unfold zstop
    first | exact T4.n | exact T4.s (by decide)
  | n + 1, k => by
    unfold zstop
    first | exact T4.ite (T4.s (by show (_ : Nat) ≤ 4; simp)) (zstop_T4 n _) | (split <;> first | exact T4.s (by simp) | exact zstop_T4 n _)
end SWE
/-- a call to both, of the same numbers: the same answer, and what is kept is kept -/
def Both (n1 : Nat) (D : DD) (W : Nat → Nat) (N : Int) (Mx Mm : MI) (av : List AV) : Prop :=
  ∃ K1 : Int → Mem → Prop, Cl 220 0 0 Mx (vr 4 :: av) (D, rho n1 W) (KI K1) ∧ ∀ x1 m1, K1 x1 m1 → ∃ (D1 : DD) (W1 : Nat → Nat), m1 = (D1, rho n1 W1) ∧ D1 1 = D 1 ∧
    ∃ K2 : Int → Mem → Prop, Cl 220 0 0 Mm (vr 152 :: av) (D1, rho n1 W1) (KI K2) ∧ ∀ x2 m2, K2 x2 m2 → x1 = x2 ∧ ∃ (D2 : DD) (W2 : Nat → Nat), m2 = (D2, rho n1 W2) ∧ D2 1 = D 1 ∧ R0 D2 W2 (N + 1) ∧ RT D2
section BTH
variable {n1 : Nat} {D : DD} {W : Nat → Nat} {N : Int} {Mx Mm : MI} {av : List AV} {S : Int × Option (List Int)}
theorem tvn_T4 {o : Option (List Int)} {x : Int} {t : List Int × Int} (h : T4 (x, o)) (h0 : 0 ≤ t.2) (h1 : t.2 ≤ 4) : 0 ≤ (tvn o t).2 ∧ (tvn o t).2 ≤ 4 := by
  cases o with
  | none => exact ⟨h0, h1⟩
  | some l =>
    have := h l rfl
    show 0 ≤ (l.length : Int) ∧ (l.length : Int) ≤ 4
    omega
theorem Both.ask (h : R0 D W N) (t : RT D) (h4 : T4 S) (hx : Cl 220 0 0 Mx (vr 4 :: av) (D, rho n1 W) (KI (WhG n1 D W S)))
    (hm : ∀ (D1 : DD) (W1 : Nat → Nat), R0 D1 W1 N → lawsv D1 W1 = lawsv D W → (∀ q, 152 ≤ q → D1 q = D q) → MRun D1 (lawsv D W) → Cl 220 0 0 Mm (vr 152 :: av) (D1, rho n1 W1) (KI (Was n1 D1 W1 S))) : Both n1 D W N Mx Mm av := by
  refine ⟨_, hx, ?_⟩
  rintro x1 m1 ⟨D1, W1, rfl, f, hW, hb, rfl, tv⟩
  obtain ⟨h1, lw, m⟩ := h.cls f hW hb
  have w4 := h.1.1.2.1 4 (by decide)
  unfold walkId at w4
  refine ⟨D1, W1, rfl, f.obj (fun j => by unfold gF aF tlF wF; omega), _, hm D1 W1 h1 lw m (by rw [← lw]; exact h1.run), ?_⟩
  rintro x2 m2 ⟨D2, V, rfl, hV, f2, ms, mc, -, rfl, tv2⟩
  obtain ⟨h2, m2⟩ := h1.mod f2 hV ms mc
  refine ⟨rfl, D2, V, rfl, (m2 1 (by decide)).trans (f.obj (fun j => by unfold gF aF tlF wF; omega)), h2.up (by omega), ?_⟩
  have e1 : TV D2 = TV D1 := by
    show (lst (D2 98) (D2 4 16), D2 4 16) = (lst (D1 98) (D1 4 16), D1 4 16)
    rw [m2 98 (by decide), m2 4 (by decide)]
  have e2 : MTV D1 = MTV D := by
    show (lst (D1 160) (D1 152 14), D1 152 14) = (lst (D 160) (D 152 14), D 152 14)
    rw [m 160 (by decide), m 152 (by decide)]
  have e3 : (MTV D2).2 = (tvn S.2 (MTV D)).2 := by rw [tv2, e2]
  have r := tvn_T4 (x := S.1) (o := S.2) (t := MTV D) h4 t.2.1 t.2.2
  exact ⟨by rw [e1, tv, tv2, e2, t.1], by show 0 ≤ (MTV D2).2; rw [e3]; exact r.1, by show (MTV D2).2 ≤ 4; rw [e3]; exact r.2⟩
theorem whg {r : Int} {m : Mem} (hm : MP D W) (h : Wh n1 D W S r m) : WhG n1 D W S r m := by
  obtain ⟨D1, W1, rfl, ⟨f, hW⟩, e1, e2⟩ := h
  have w4 := hm.2.1 4 (by decide)
  unfold walkId at w4
  exact ⟨D1, W1, rfl, f.mono (fun q j z => by unfold gF; rcases z with z | z; exact Or.inl z; exact Or.inr (Or.inl z)), fun i hi => hW i (by omega), by rw [f (W 4) 4 (fun z => by unfold aF tlF at z; omega)]; exact hm.2.2.2 4 (by decide), e1, e2⟩
theorem whg2 {r : Int} {m : Mem} (h : Wh2 n1 D W S r m) : WhG n1 D W S r m := by
  obtain ⟨D1, W1, rfl, f, hW, hb, e1, e2⟩ := h
  exact ⟨D1, W1, rfl, f.mono (fun q j z => by unfold gF; rcases z with (z | z) | z; exact Or.inl z; exact Or.inr (Or.inr (Or.inl z)); exact Or.inr (Or.inl z)), fun i hi => hW i (by omega), hb, e1, e2⟩
theorem was_m {r : Int} {m : Mem} (h : Wm n1 D W S r m) : Was n1 D W S r m := by
  obtain ⟨D1, rfl, f, e15, e1, e2⟩ := h
  exact ⟨D1, W, rfl, V12.refl, f.mono (fun q j z => by unfold mqF at z; unfold maF; omega), mst_fr f (by unfold mqF; omega) (by unfold mqF; omega) (fun q j a b => by unfold mqF; omega), mcup_fr f (fun j a b => by unfold mqF; omega) (fun q j a b => by unfold mqF; omega), e15, e1, e2⟩
theorem Cl.wk {d : Nat} {M : MI} {bv : List AV} {μ : Mem} {K K' : Int → Mem → Prop} (h : Cl d 0 0 M bv μ (KI K)) (w : ∀ r m, K r m → K' r m) : Cl d 0 0 M bv μ (KI K') := by
  refine Cl.weak ?_ h
  rintro r m ⟨x, rfl, hk⟩
  exact ⟨x, rfl, w x m hk⟩
/-- what the model sees -/
theorem m_sees {D1 : DD} (m : ∀ q, 152 ≤ q → D1 q = D q) : mcup D1 = mcup D ∧ wkm D1 = wkm D ∧ mst D1 = mst D ∧ mspots D1 = mspots D ∧ mfilms D1 = mfilms D ∧ D1 180 = D 180 := by
  have f : Fr (fun q _ => q < 152) D D1 := fun q j z => by rw [m q (by omega)]
  exact ⟨mcup_fr f (fun j a b => by omega) (fun q j a b => by omega), by funext a; exact wkm_fr f (fun q j a b => by omega), mst_fr f (by omega) (by omega) (fun q j a b => by omega), msp_fr f (by omega) (fun j => by omega), mfl_fr f (by omega) (fun q j a b => by omega), m 180 (by decide)⟩
theorem R0.we (h : R0 D W N) : WE (wkm D) (wsv D W) := fun a a0 a1 => (h.2.2.2.2.1 a a0 a1).1.symm
theorem R0.hl {D1 : DD} (h : R0 D W N) (m : ∀ q, 152 ≤ q → D1 q = D q) : mcup D1 = cupv D 5 ∧ mhl D1 (lawsv D W) = hcode D W := by
  have e := (m_sees m).1
  have e' : mcup D1 = cupv D 5 := by rw [e, h.2.1.1]
  refine ⟨e', ?_⟩
  unfold mhl
  rw [e']
  rfl
end BTH
