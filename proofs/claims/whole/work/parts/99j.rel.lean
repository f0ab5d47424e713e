/-! ===== both sides together: what the law keeps between its calls ===== -/
def WDis (W : Nat → Nat) : Prop := (∀ i j, i < 5 → j < 5 → W i = W j → i = j) ∧ ∀ i j, 5 ≤ i → i < 9 → 5 ≤ j → j < 9 → W i = W j → i = j
def GS (c : Cv) (s : Sv) (N : Int) : Prop := SOK s ∧ BK c s ∧ sTick s ≤ 1000 * N
def Pa (D : DD) (W : Nat → Nat) : Prop := MP D W ∧ WDis W ∧ SOKd D
def Pb (D : DD) : Prop := cupv D 5 = mcup D ∧ HO (mcup D)
def Pc (D : DD) (N : Int) : Prop := stv D 8 = mst D ∧ GS (mcup D) (mst D) N
def Pd1 (D : DD) (N : Int) (i : Int) : Prop := (kbit (D 4 3) i ↔ D 191 i ≠ 0 ∧ D 192 i = D 152 16) ∧ (kbit (D 4 3) i → stv D (99 + 8 * i.toNat) = mkv D 177 (105 * i) ∧ GS (mcup D) (mkv D 177 (105 * i)) N) ∧ (0 ≤ D 192 i ∧ D 192 i ≤ D 152 16)
def Pd (D : DD) (N : Int) : Prop := (0 ≤ D 152 16 ∧ D 152 16 ≤ N) ∧ (0 ≤ D 4 3 ∧ D 4 3 ≤ 7) ∧ ∀ i, 0 ≤ i → i ≤ 2 → Pd1 D N i
def Pe (D : DD) (W : Nat → Nat) : Prop := ∀ a, 0 ≤ a → a ≤ 3 → wsv D W a = wkm D a ∧ WB (wkm D a)
def Pf (D : DD) (W : Nat → Nat) : Prop := MLaw D (lawsv D W)
def Pg7 (D : DD) : Prop := (∀ j, 0 ≤ j → j < 4 → D 20 j = D 180 j ∧ 0 ≤ D 180 j ∧ D 180 j ≤ 99) ∧ (D 4 13 = D 152 57 ∧ 0 ≤ D 152 57 ∧ D 152 57 ≤ 12 ∧ spotsv D = mspots D ∧ LIn (mspots D)) ∧ (D 93 4 = D 152 59 ∧ 0 ≤ D 152 59 ∧ D 152 59 ≤ 20 ∧ filmsv D = mfilms D ∧ GIn (mfilms D))
def Pi9 (D : DD) : Prop := (D 17 1 = D 152 12 ∧ 0 ≤ D 152 12 ∧ D 152 12 ≤ 80) ∧ ∀ k, 0 ≤ k → k < D 152 12 → (0 ≤ D 18 k ∧ D 18 k ≤ 255) ∧ D 159 k = w8 (D 18 k)
def R0 (D : DD) (W : Nat → Nat) (N : Int) : Prop := Pa D W ∧ Pb D ∧ Pc D N ∧ Pd D N ∧ Pe D W ∧ Pf D W ∧ Pg7 D ∧ Pi9 D
def RT (D : DD) : Prop := TV D = MTV D ∧ 0 ≤ D 152 14 ∧ D 152 14 ≤ 4
section REL
variable {D D' : DD} {W W' : Nat → Nat} {N N' : Int}
theorem GS.mono {c : Cv} {s : Sv} (h : GS c s N) (hN : N ≤ N') : GS c s N' := ⟨h.1, h.2.1, by have := h.2.2; omega⟩
theorem Pa.cg (h : Pa D W) (e1 : cupv D' 5 = cupv D 5) (e2 : ∀ i, i < 9 → W' i = W i) (e3 : ∀ i, i < 5 → 0 ≤ D' (W i) 4 ∧ D' (W i) 4 ≤ 1000) (e4 : D' 2 = D 2) (e5 : D' 3 = D 3) : Pa D' W' := by
  obtain ⟨⟨a1, a2, a3, a4⟩, ⟨b1, b2⟩, c⟩ := h
  refine ⟨⟨by rw [e1]; exact a1, fun i hi => by rw [e2 i (by omega)]; exact a2 i hi, fun i h5 h9 => by rw [e2 i h9]; exact a3 i h5 h9, fun i hi => by rw [e2 i (by omega)]; exact e3 i hi⟩, ⟨fun i j hi hj => ?_, fun i j i5 i9 j5 j9 => ?_⟩, ?_⟩
  · rw [e2 i (by omega), e2 j (by omega)]
    exact b1 i j hi hj
  · rw [e2 i i9, e2 j j9]
    exact b2 i j i5 i9 j5 j9
  · unfold SOKd at *
    rw [e4, e5]
    exact c
theorem Pb.cg (h : Pb D) (e1 : cupv D' 5 = cupv D 5) (e2 : mcup D' = mcup D) : Pb D' := by
  unfold Pb at *
  rw [e1, e2]
  exact h
theorem Pc.cg (h : Pc D N) (hN : N ≤ N') (e1 : stv D' 8 = stv D 8) (e2 : mst D' = mst D) (e3 : mcup D' = mcup D) : Pc D' N' := by
  unfold Pc at *
  rw [e1, e2, e3]
  exact ⟨h.1, h.2.mono hN⟩
theorem Pd.cg (h : Pd D N) (hN : N ≤ N') (e1 : D' 4 3 = D 4 3) (e2 : ∀ i, 0 ≤ i → i ≤ 2 → D' 191 i = D 191 i ∧ D' 192 i = D 192 i ∧ stv D' (99 + 8 * i.toNat) = stv D (99 + 8 * i.toNat) ∧ mkv D' 177 (105 * i) = mkv D 177 (105 * i)) (e3 : D' 152 16 = D 152 16) (e4 : mcup D' = mcup D) : Pd D' N' := by
  refine ⟨by rw [e3]; exact ⟨h.1.1, by have := h.1.2; omega⟩, by rw [e1]; exact h.2.1, fun i i0 i1 => ?_⟩
  obtain ⟨a, b, c⟩ := h.2.2 i i0 i1
  obtain ⟨f1, f2, f3, f4⟩ := e2 i i0 i1
  unfold Pd1
  rw [e1, f1, f2, f3, f4, e3, e4]
  exact ⟨a, fun z => ⟨(b z).1, (b z).2.mono hN⟩, c⟩
theorem Pe.cg (h : Pe D W) (e1 : ∀ a, 0 ≤ a → a ≤ 3 → wsv D' W' a = wsv D W a) (e2 : ∀ a, 0 ≤ a → a ≤ 3 → wkm D' a = wkm D a) : Pe D' W' := by
  intro a a0 a1
  rw [e1 a a0 a1, e2 a a0 a1]
  exact h a a0 a1
theorem Pf.cg (h : Pf D W) (e1 : lawsv D' W' = lawsv D W) (e2 : D' 175 = D 175) (e3 : ∀ l : Nat, l ≤ 2 → D' (172 + l) = D (172 + l)) : Pf D' W' := by
  unfold Pf MLaw at *
  rw [e1, e2]
  intro l
  have q := h l
  by_cases g : (0 ≤ l ∧ l ≤ 2) ∧ 1 ≤ D 175 l
  · rw [if_pos g] at q ⊢
    rw [e3 l.toNat (by omega)]
    exact q
  · rw [if_neg g] at q ⊢
    exact q
theorem Pg7.cg (h : Pg7 D) (e1 : D' 20 = D 20) (e2 : D' 180 = D 180) (e3 : D' 4 13 = D 4 13) (e4 : D' 152 57 = D 152 57) (e5 : spotsv D' = spotsv D) (e6 : mspots D' = mspots D) (e7 : D' 93 4 = D 93 4) (e8 : D' 152 59 = D 152 59) (e9 : filmsv D' = filmsv D) (e10 : mfilms D' = mfilms D) : Pg7 D' := by
  unfold Pg7 at *
  rw [e1, e2, e3, e4, e5, e6, e7, e8, e9, e10]
  exact h
theorem Pi9.cg (h : Pi9 D) (e1 : D' 17 1 = D 17 1) (e2 : D' 152 12 = D 152 12) (e3 : D' 18 = D 18) (e4 : D' 159 = D 159) : Pi9 D' := by
  unfold Pi9 at *
  rw [e1, e2, e3, e4]
  exact h
theorem RT.cg (h : RT D) (e1 : TV D' = TV D) (e2 : MTV D' = MTV D) : RT D' := by
  obtain ⟨a, b, c⟩ := h
  have e : D' 152 14 = D 152 14 := congrArg Prod.snd e2
  exact ⟨by rw [e1, e2]; exact a, by rw [e]; exact b, by rw [e]; exact c⟩
theorem tv_fr {F : Nat → Int → Prop} (f : Fr F D D') (n1 : ¬ F 4 16) (n2 : ∀ j, ¬ F 98 j) : TV D' = TV D := by
  show (lst (D' 98) (D' 4 16), D' 4 16) = (lst (D 98) (D 4 16), D 4 16)
  rw [f.obj n2, f 4 16 n1]
theorem mtv_fr {F : Nat → Int → Prop} (f : Fr F D D') (n1 : ¬ F 152 14) (n2 : ∀ j, ¬ F 160 j) : MTV D' = MTV D := by
  show (lst (D' 160) (D' 152 14), D' 152 14) = (lst (D 160) (D 152 14), D 152 14)
  rw [f.obj n2, f 152 14 n1]
theorem sp_fr {F : Nat → Int → Prop} (f : Fr F D D') (n1 : ¬ F 4 13) (n2 : ∀ j, ¬ F 92 j) : spotsv D' = spotsv D := by
  show lst (D' 92) (D' 4 13) = lst (D 92) (D 4 13)
  rw [f.obj n2, f 4 13 n1]
theorem msp_fr {F : Nat → Int → Prop} (f : Fr F D D') (n1 : ¬ F 152 57) (n2 : ∀ j, ¬ F 186 j) : mspots D' = mspots D := by
  show lst (D' 186) (D' 152 57) = lst (D 186) (D 152 57)
  rw [f.obj n2, f 152 57 n1]
theorem fl_fr {F : Nat → Int → Prop} (f : Fr F D D') (n : ∀ q j, 93 ≤ q → q ≤ 97 → ¬ F q j) : filmsv D' = filmsv D := by
  unfold filmsv
  rw [f 93 4 (n 93 4 (by decide) (by decide)), f.obj (fun j => n 94 j (by decide) (by decide)), f.obj (fun j => n 95 j (by decide) (by decide)), f.obj (fun j => n 96 j (by decide) (by decide)), f.obj (fun j => n 97 j (by decide) (by decide))]
theorem mfl_fr {F : Nat → Int → Prop} (f : Fr F D D') (n1 : ¬ F 152 59) (n : ∀ q j, 187 ≤ q → q ≤ 190 → ¬ F q j) : mfilms D' = mfilms D := by
  unfold mfilms
  rw [f 152 59 n1, f.obj (fun j => n 187 j (by decide) (by decide)), f.obj (fun j => n 188 j (by decide) (by decide)), f.obj (fun j => n 189 j (by decide) (by decide)), f.obj (fun j => n 190 j (by decide) (by decide))]
theorem mkv_fr {F : Nat → Int → Prop} {b : Int} (f : Fr F D D') (n : ∀ j, b ≤ j → j < b + 105 → ¬ F 177 j) : mkv D' 177 b = mkv D 177 b :=
  mkv_ext (fun o h0 h1 => f 177 (b + o) (n _ (by omega) (by omega)))
/-! frames: what nobody's laws lie in -/
def Lfree (F : Nat → Int → Prop) : Prop := ∀ q j, q = 27 ∨ q = 28 ∨ q = 143 ∨ q = 144 ∨ q = 146 ∨ q = 147 ∨ q = 149 ∨ q = 150 → ¬ F q j
theorem laws_fr {F : Nat → Int → Prop} (f : Fr F D D') (hl : ∀ i, 5 ≤ i → i < 9 → lawId (W i)) (hW : ∀ i, i < 9 → W' i = W i) (n : Lfree F) : lawsv D' W' = lawsv D W := by
  funext l
  unfold lawsv
  have t : tlaw D' W' l = tlaw D W l := by
    unfold tlaw
    by_cases g : 0 ≤ l ∧ l ≤ 2
    · have q := hl (5 + l.toNat) (by omega) (by omega)
      unfold lawId at q
      rw [hW (5 + l.toNat) (by omega), f (W (5 + l.toNat)) 2 (n _ _ (by omega))]
    · rw [if_neg (fun z => g z.1), if_neg (fun z => g z.1)]
  rw [t]
  by_cases g : tlaw D W l = 0
  · rw [g]
    rfl
  · refine lawO_fr f (fun j => ?_)
    have q : lawId (tlaw D W l) := by
      unfold tlaw at g ⊢
      by_cases z : (0 ≤ l ∧ l ≤ 2) ∧ 0 < D (W (5 + l.toNat)) 2
      · rw [if_pos z]
        exact hl _ (by omega) (by omega)
      · rw [if_neg z] at g
        exact absurd rfl g
    unfold lawId at q
    exact ⟨n _ _ (by omega), n _ _ (by omega)⟩
theorem R0.cls (h : R0 D W N) (f : Fr (gF (W 4)) D D') (hW : ∀ i, i < 9 → W' i = W i) (hb : 0 ≤ D' (W 4) 4 ∧ D' (W 4) 4 ≤ 1000) : R0 D' W' N ∧ lawsv D' W' = lawsv D W ∧ ∀ q, 152 ≤ q → D' q = D q := by
  obtain ⟨ha, hb', hc, hd, he, hf, hg, hi⟩ := h
  have w4 := ha.1.2.1 4 (by decide)
  have w4' := w4
  unfold walkId at w4
  have g : ∀ q j, gF (W 4) q j → ((21 ≤ q ∧ q ≤ 25) ∨ (29 ≤ q ∧ q ≤ 91) ∨ q = 98 ∨ (q = 4 ∧ j = 16) ∨ q = 145 ∨ q = 148 ∨ q = 151 ∨ (123 ≤ q ∧ q ≤ 142)) := fun q j z => by
    unfold gF aF tlF wF at z
    omega
  have f' := f.mono g
  have m : ∀ q, 152 ≤ q → D' q = D q := fun q hq => f'.obj (fun j => by omega)
  have cu : cupv D' 5 = cupv D 5 := cupv_fr f' (fun q j a b => by omega)
  have mc : mcup D' = mcup D := mcup_fr f' (fun j a b => by omega) (fun q j a b => by omega)
  have ms : mst D' = mst D := mst_fr f' (by omega) (by omega) (fun q j a b => by omega)
  have lw : lawsv D' W' = lawsv D W := laws_fr f ha.1.2.2.1 hW (fun q j z y => by have := g q j y; omega)
  refine ⟨⟨ha.cg cu hW (fun i hi => ?_) (f'.obj (fun j => by omega)) (f'.obj (fun j => by omega)), hb'.cg cu mc, hc.cg (Int.le_refl _) (stv_fr f' (fun q j a b => by omega)) ms mc,
    hd.cg (Int.le_refl _) (f' _ _ (by omega)) (fun i i0 i1 => ⟨by rw [m 191 (by decide)], by rw [m 192 (by decide)], stv_fr f' (fun q j a b => by omega), mkv_fr f' (fun j a b => by omega)⟩) (by rw [m 152 (by decide)]) mc,
    he.cg (fun a a0 a1 => ?_) (fun a a0 a1 => wkm_fr f' (fun q j x y => by omega)), hf.cg lw (m 175 (by decide)) (fun l hl => m _ (by omega)),
    hg.cg (f'.obj (fun j => by omega)) (m 180 (by decide)) (f' _ _ (by omega)) (by rw [m 152 (by decide)]) (sp_fr f' (by omega) (fun j => by omega)) (msp_fr f' (by omega) (fun j => by omega)) (f' _ _ (by omega)) (by rw [m 152 (by decide)]) (fl_fr f' (fun q j a b => by omega)) (mfl_fr f' (by omega) (fun q j a b => by omega)),
    hi.cg (f' _ _ (by omega)) (by rw [m 152 (by decide)]) (f'.obj (fun j => by omega)) (m 159 (by decide))⟩, lw, m⟩
  · by_cases e : i = 4
    · rw [e]
      exact hb
    · have q := ha.1.2.1 i hi
      have ne : W i ≠ W 4 := fun z => e (ha.2.1.1 i 4 hi (by decide) z)
      unfold walkId at q
      rw [f (W i) 4 (fun z => by unfold gF aF tlF wF at z; omega)]
      exact ha.1.2.2.2 i hi
  · unfold wsv
    rw [hW a.toNat (by omega)]
    have q := ha.1.2.1 a.toNat (by omega)
    have ne : W a.toNat ≠ W 4 := fun z => by
      have := ha.2.1.1 a.toNat 4 (by omega) (by decide) z
      omega
    unfold walkId at q
    exact wkv_fr f (fun q j x y z => by unfold gF aF tlF wF at z; omega)
theorem R0.mod {V : Nat → Nat} (h : R0 D W N) (f : Fr maF D D') (hV : V12 W V) (ms : mst D' = mst D) (mc : mcup D' = mcup D) : R0 D' V N ∧ ∀ q, q < 152 → D' q = D q := by
  obtain ⟨ha, hb', hc, hd, he, hf, hg, hi⟩ := h
  have m : ∀ q, q < 152 → D' q = D q := fun q hq => f.obj (fun j => by unfold maF; omega)
  have cu : cupv D' 5 = cupv D 5 := cupv_fr f (fun q j a b => by unfold maF; omega)
  have hW : ∀ i, i < 9 → V i = W i := fun i hi => hV i (by omega)
  have n1 : ∀ q j, 159 ≤ q → q ≠ 160 → q ≠ 176 → q ≠ 177 → q ≠ 178 → q ≠ 179 → (q < 181 ∨ 185 < q) → ¬ maF q j := fun q j a b c d e f g => by unfold maF; omega
  have lw : lawsv D' V = lawsv D W := laws_fr f ha.1.2.2.1 hW (fun q j z y => by unfold maF at y; omega)
  have e16 : D' 152 16 = D 152 16 := f 152 16 (by unfold maF; omega)
  have e57 : D' 152 57 = D 152 57 := f 152 57 (by unfold maF; omega)
  have e59 : D' 152 59 = D 152 59 := f 152 59 (by unfold maF; omega)
  have e12 : D' 152 12 = D 152 12 := f 152 12 (by unfold maF; omega)
  refine ⟨⟨ha.cg cu hW (fun i hi => ?_) (m 2 (by decide)) (m 3 (by decide)), hb'.cg cu mc, hc.cg (Int.le_refl _) (stv_fr f (fun q j a b => by unfold maF; omega)) ms mc,
    hd.cg (Int.le_refl _) (by rw [m 4 (by decide)]) (fun i i0 i1 => ⟨f _ _ (n1 _ _ (by decide) (by decide) (by decide) (by decide) (by decide) (by decide) (by decide)), f _ _ (n1 _ _ (by decide) (by decide) (by decide) (by decide) (by decide) (by decide) (by decide)), stv_fr f (fun q j a b => by unfold maF; omega), mkv_fr f (fun j a b => by unfold maF; omega)⟩) e16 mc,
    he.cg (fun a a0 a1 => ?_) (fun a a0 a1 => wkm_fr f (fun q j x y => by unfold maF; omega)), hf.cg lw (f.obj (fun j => n1 _ _ (by decide) (by decide) (by decide) (by decide) (by decide) (by decide) (by decide))) (fun l hl => f.obj (fun j => n1 _ _ (by omega) (by omega) (by omega) (by omega) (by omega) (by omega) (by omega))),
    hg.cg (m 20 (by decide)) (f.obj (fun j => n1 _ _ (by decide) (by decide) (by decide) (by decide) (by decide) (by decide) (by decide))) (by rw [m 4 (by decide)]) e57 (by show lst (D' 92) (D' 4 13) = _; rw [m 92 (by decide), m 4 (by decide)]; rfl) (msp_fr f (by unfold maF; omega) (fun j => by unfold maF; omega)) (by rw [m 93 (by decide)]) e59 (fl_fr f (fun q j a b => by unfold maF; omega)) (mfl_fr f (by unfold maF; omega) (fun q j a b => by unfold maF; omega)),
    hi.cg (by rw [m 17 (by decide)]) e12 (m 18 (by decide)) (f.obj (fun j => n1 _ _ (by decide) (by decide) (by decide) (by decide) (by decide) (by decide) (by decide)))⟩, m⟩
  · have q := ha.1.2.1 i hi
    unfold walkId at q
    rw [m (W i) (by omega)]
    exact ha.1.2.2.2 i hi
  · unfold wsv
    rw [hW a.toNat (by omega)]
    have q := ha.1.2.1 a.toNat (by omega)
    unfold walkId at q
    exact wkv_fr f (fun q j x y z => by unfold maF at z; omega)
theorem R0.up (h : R0 D W N) (hN : N ≤ N') : R0 D W N' := by
  obtain ⟨ha, hb, hc, hd, he, hf, hg, hi⟩ := h
  exact ⟨ha, hb, hc.cg hN rfl rfl rfl, hd.cg hN rfl (fun i _ _ => ⟨rfl, rfl, rfl, rfl⟩) rfl rfl, he, hf, hg, hi⟩
theorem R0.run (h : R0 D W N) : MRun D (lawsv D W) := by
  obtain ⟨ha, hb, hc, hd, he, hf, hg, hi⟩ := h
  have cok : COK (mcup D) := by rw [← hb.1]; exact ha.1.1
  have l0 : 1 ≤ D 152 0 - 1 := cok.1
  have l1 : D 152 0 - 1 ≤ 19 := cok.2.1
  exact ⟨⟨by omega, by omega⟩, cok, hc.2.1, hf, fun a a0 a1 => by
    have q := (he a a0 a1).2.1
    have q : 0 ≤ D 162 a ∧ D 162 a ≤ D 161 a ∧ D 161 a ≤ 1000 := q
    omega⟩
end REL
