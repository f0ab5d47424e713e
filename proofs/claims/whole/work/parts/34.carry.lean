/-! ===== State.pass, carry ===== -/
def SWk (ρ : Rho) (w : Nat) : Prop := rK ρ w = 9 ∧ (rR ρ w 0 = w + 1 ∧ rR ρ w 1 = w + 2 ∧ rR ρ w 2 = w + 3 ∧ rR ρ w 3 = w + 4) ∧ (rK ρ (w + 1) = 20 ∧ rK ρ (w + 2) = 20 ∧ rK ρ (w + 3) = 20 ∧ rK ρ (w + 4) = 20) ∧ rN ρ (w + 1) = 1000 ∧ rN ρ (w + 2) = 1000 ∧ rN ρ (w + 3) = 1000 ∧ rN ρ (w + 4) = 1000
def lawO (D : DD) (l : Nat) : Option (List Int) := if l = 0 then none else some (lawv D l)
theorem lawO_fr {F : Nat → Int → Prop} {D D' : DD} {l : Nat} (h : Fr F D D') (n : ∀ j, ¬ F l j ∧ ¬ F (l + 1) j) : lawO D' l = lawO D l := by
  unfold lawO lawv
  rw [h.obj (fun j => (n j).1), h.obj (fun j => (n j).2)]
section SC
variable {d o c : Nat} {D : DD} {ρ : Rho}
theorem C_spass {pa pc : Int} (hs : SSt ρ o) (hc : SCup ρ c) (l0 : 1 ≤ D c 0) (l1 : D c 0 ≤ 19) (hd : c + 2 < o ∨ o + 7 < c) (ht : 0 ≤ D o 0) :
    Cl (d + 3) 0 0 mX5_pass [vr o, vr c, vi pa, vi pc] (D, ρ) (KI (fun r m => ∃ D', m = (D', ρ) ∧ Fr (fun q _ => o ≤ q ∧ q ≤ o + 7) D D' ∧ (r, stv D' o) = ztick (cupv D c) pa pc (stv D o))) := by
  obtain ⟨s0, s1, s2, s3, r1, r2, s4, s5⟩ := hs
  have g1 : rK ρ (rR ρ o 4) = 20 := by rw [s3]; exact s4
  have n1 : (mN (D, ρ) (mR (D, ρ) o 4) : Int) = 21 := by show ((rN ρ (rR ρ o 4) : Nat) : Int) = 21; rw [s3, s5]; rfl
  refine Cl_of mb_X5_pass (by show 4 ≤ 5; decide) (sg_X5_pass_0 ⟨s0, ka g1, cP (C_floorMod ht (by rw [n1]; decide)) ⟨s0, ?_⟩⟩)
  rw [n1, show mR (D, ρ) o 2 = o + 1 from s1, show mR (D, ρ) o 4 = o + 7 from s3]
  refine ⟨r1.1, cP (C_slope r1 hc l0 l1) ⟨s4, bnd (N := 21) s5 (by omega) (by omega), fun m3 e3 => ?_⟩⟩
  obtain ⟨E, eE, hE, hE7⟩ : ∃ E : DD, m3 = (E, ρ) ∧ Fr (fun q _ => q = o + 7) D E ∧ cut 21 (E (o + 7)) = zu (cut 21 (D (o + 7))) (D o 0 % 21) (zslope (cupv D c) (rowv D (o + 1))) := by
    refine ⟨wr D (o + 7) (D o 0 % 21) (zslope (cupv D c) (rowv D (o + 1))), e3, Fr.refl.wr rfl, ?_⟩
    rw [wr_A, cut_zu (by omega) (by omega)]
  subst eE
  rw [show mR (E, ρ) o 2 = o + 1 from s1]
  refine ⟨s0, r1.1, cI (C_rpass (D := E) r1 hc (by rw [hE c 0 (by omega)]; exact l0) (by rw [hE c 0 (by omega)]; exact l1) (by omega)) ?_⟩
  rintro x3 m4 ⟨D4, rfl, h4, v4⟩
  rw [cupv_fr hE (fun q j h0 h1 => by omega), rowv_fr hE (fun q j h0 h1 => by omega)] at v4
  rw [show mR (D4, ρ) o 3 = o + 4 from s2]
  have e0 : D4 c 0 = D c 0 := by rw [h4 c 0 (by omega), hE c 0 (by omega)]
  refine ⟨s0, r2.1, cI (C_rpass (D := D4) r2 hc (by rw [e0]; exact l0) (by rw [e0]; exact l1) (by omega)) ?_⟩
  rintro x4 m5 ⟨D5, rfl, h5, v5⟩ v1 ev
  rw [cupv_fr h4 (fun q j h0 h1 => by omega), cupv_fr hE (fun q j h0 h1 => by omega), rowv_fr h4 (fun q j h0 h1 => by omega), rowv_fr hE (fun q j h0 h1 => by omega)] at v5
  refine ⟨s0, fun m6 e6 => ⟨_, rfl, wr D5 o 0 (w32 (D5 o 0 + 1)), e6, ?_, ?_⟩⟩
  · exact (((hE.mono (fun q j h => by omega)).trans (h4.mono (fun q j h => by omega))).trans (h5.mono (fun q j h => by omega))).wr ⟨by omega, by omega⟩
  · have q : ∀ k, D5 o k = D o k := fun k => by rw [h5 o k (by omega), h4 o k (by omega), hE o k (by omega)]
    have a1 : x3 = (zrow (cupv D c) pa (rowv D (o + 1))).1 := congrArg Prod.fst v4
    have a2 : rowv D4 (o + 1) = (zrow (cupv D c) pa (rowv D (o + 1))).2 := congrArg Prod.snd v4
    have b1 : x4 = (zrow (cupv D c) pc (rowv D (o + 4))).1 := congrArg Prod.fst v5
    have b2 : rowv D5 (o + 4) = (zrow (cupv D c) pc (rowv D (o + 4))).2 := congrArg Prod.snd v5
    have w1 : ∀ a, o < a → rowv (wr D5 o 0 (w32 (D5 o 0 + 1))) a = rowv D5 a := fun a ha => rowv_fr (Fr.refl.wr (F := fun z _ => z = o) rfl) (fun z j h0 h1 => by omega)
    unfold ztick sAl sAc sTick sDrawn sSeen stv
    dsimp only
    rw [w1 _ (by omega), w1 _ (by omega), rowv_fr h5 (fun q j h0 h1 => by omega), a2, b2, wr_at, wr_j (by decide), wr_o (o := o + 7) (by omega), q, q, h5.obj (fun j => by omega), h4.obj (fun j => by omega), hE7, ev, a1, b1]
theorem C_wander {m : Int} (hs : SSt ρ o) : Cl d 0 0 mX5_wander [vr o, vi m] (D, ρ) (KI (fun r m' => ∃ D', m' = (D', ρ) ∧ Fr (fun q j => q = o ∧ j = 1) D D' ∧ r = zwan m (stv D o) ∧ stv D' o = zwans m (stv D o))) := by
  refine Cl_of mb_X5_wander (by show 2 ≤ 2; decide) (sg_X5_wander_0 ⟨fun c => ⟨hs.1, fun m1 e1 => ⟨by unfold w32; omega, ?_⟩⟩, fun c => ⟨_, rfl, D, rfl, Fr.refl, ?_, ?_⟩⟩)
  · subst e1
    refine ⟨_, rfl, wr D o 1 (w32 (w32 (D o 1 * 1103515245) + 12345)), rfl, Fr.refl.wr ⟨rfl, rfl⟩, ?_, ?_⟩
    · rw [sD_mk]
      show w32 ((bUshr (wr D o 1 _ o 1) 16).tmod _ - m) = _
      rw [wr_at]
      unfold zwan
      rw [if_pos c]
      rfl
    · unfold zwans
      rw [if_pos c]
      unfold stv
      rw [rowv_fr (Fr.refl.wr (F := fun z _ => z = o) rfl) (fun z j h0 h1 => by omega), rowv_fr (Fr.refl.wr (F := fun z _ => z = o) rfl) (fun z j h0 h1 => by omega), wr_at, wr_j (by decide), wr_o (by omega)]
      rfl
  · unfold zwan
    rw [if_neg c]
  · unfold zwans
    rw [if_neg c]
theorem C_slopeSeen (hs : SSt ρ o) (hc : SCup ρ c) (l0 : 1 ≤ D c 0) (l1 : D c 0 ≤ 19) (ht : 0 ≤ D o 0) (hl0 : 0 ≤ D (c + 1) 5) (hl1 : D (c + 1) 5 ≤ 20) : Cl (d + 1) 0 0 mX5_slopeSeen [vr o, vr c] (D, ρ) (KI (fun r m => r = zseen (cupv D c) (stv D o) ∧ m = (D, ρ))) := by
  obtain ⟨g1, g2, g3, g4⟩ := hc.f
  obtain ⟨s0, s1, s2, s3, r1, r2, s4, s5⟩ := hs
  have gs : rK ρ (rR ρ o 4) = 20 := by rw [s3]; exact s4
  have gn : rN ρ (rR ρ o 4) = 21 := by rw [s3]; exact s5
  have n1 : (mN (D, ρ) (mR (D, ρ) o 4) : Int) = 21 := by show ((rN ρ (rR ρ o 4) : Nat) : Int) = 21; rw [s3, s5]; rfl
  have e5 : cSet (cupv D c) 5 = D (c + 1) 5 := cut_in (n := 7) (f := D (c + 1)) (k := 5) (by decide) (by decide)
  refine Cl.pre fun _ hg => ?_
  have hb := (hg o 0).2 (by show rK ρ o ≠ 21; omega)
  change r32 (D o 0) at hb
  unfold r32 at hb
  refine Cl_of mb_X5_slopeSeen (by show 2 ≤ 3; decide) (sg_X5_slopeSeen_0 ⟨hc.1, Or.inl g1, bnd (N := 7) g3 (by decide) (by decide), fun v1 e1 => ⟨fun c1 => ⟨s0, fun c2 => ⟨ka gs, ?_⟩, fun c2 => ⟨_, rfl, ?_, rfl⟩⟩, fun c1 => ⟨s0, ?_⟩⟩⟩)
  · have e1 : v1 = D (c + 1) 5 := by rw [e1, show mR (D, ρ) c 3 = c + 1 from hc.2.1]; rfl
    change v1 ≤ D o 0 at c2
    refine cP (C_floorMod (x := w32 (D o 0 - v1)) (by rw [w32_id (by omega) (by omega)]; omega) (by rw [n1]; decide)) ?_
    rw [n1, w32_id (by omega) (by omega)]
    refine ⟨Or.inl gs, ⟨by omega, by omega⟩, _, rfl, ?_, rfl⟩
    unfold zseen
    rw [e5, if_neg (by omega), if_pos (show D (c + 1) 5 ≤ sTick (stv D o) from by show D (c + 1) 5 ≤ D o 0; omega)]
    show D (rR ρ o 4) ((D o 0 - v1) % 21) = cut 21 (D (o + 7)) ((D o 0 - D (c + 1) 5) % 21)
    rw [cut_in (by omega) (by omega), s3, e1]
  · have e1 : v1 = D (c + 1) 5 := by rw [e1, show mR (D, ρ) c 3 = c + 1 from hc.2.1]; rfl
    change ¬ v1 ≤ D o 0 at c2
    unfold zseen
    rw [e5, if_neg (by omega), if_neg (show ¬ D (c + 1) 5 ≤ sTick (stv D o) from by show ¬ D (c + 1) 5 ≤ D o 0; omega)]
  · have e1 : v1 = D (c + 1) 5 := by rw [e1, show mR (D, ρ) c 3 = c + 1 from hc.2.1]; rfl
    rw [show mR (D, ρ) o 2 = o + 1 from s1]
    refine ⟨r1.1, cP (C_slope r1 hc l0 l1) ⟨_, rfl, ?_, rfl⟩⟩
    unfold zseen
    rw [e5, if_pos (by omega)]
    rfl
theorem C_given {l : Nat} {push : Int} (hs : SSt ρ o) (hc : SCup ρ c) (hl : l = 0 ∨ SLaw ρ l) (l0 : 1 ≤ D c 0) (l1 : D c 0 ≤ 19) (ht : 0 ≤ D o 0) (hl0 : 0 ≤ D (c + 1) 5) (hl1 : D (c + 1) 5 ≤ 20) :
    Cl (d + 2) 0 0 mX5_given [vr o, vr c, vr l, vi push] (D, ρ) (KI (fun r m => ∃ D', m = (D', ρ) ∧ Fr (fun q _ => l ≠ 0 ∧ q = l + 2) D D' ∧ r = zgiven (cupv D c) (lawO D l) (stv D o) push)) := by
  have hs' := hs
  obtain ⟨g1, g2, g3, g4⟩ := hc.f
  obtain ⟨s0, s1, s2, s3, r1, r2, s4, s5⟩ := hs
  obtain ⟨f1, f2, f3, f4⟩ := r1.f
  have er : mR (D, ρ) o 2 = o + 1 := s1
  have a1 : mK (D, ρ) (mR (D, ρ) o 2) = 5 := by rw [er]; exact r1.1
  have a2 : mK (D, ρ) (mR (D, ρ) (mR (D, ρ) o 2) 0) = 20 := by rw [er]; exact f1
  have a3 : mN (D, ρ) (mR (D, ρ) (mR (D, ρ) o 2) 0) = 20 := by rw [er]; exact f3
  refine Cl_of mb_X5_given (by show 4 ≤ 5; decide) (sg_X5_given_0 ⟨fun c1 => ⟨s0, cP (C_slopeSeen hs' hc l0 l1 ht hl0 hl1) ⟨s0, hc.1, Or.inl g1, bnd (N := 7) g3 (by decide) (by decide), a1, Or.inl a2, bnd (N := 20) a3 (by decide) (by decide), ?_⟩⟩, fun c1 => ⟨_, rfl, D, rfl, Fr.refl, ?_⟩⟩)
  · have hl : SLaw ρ l := by
      rcases hl with h | h
      · exact absurd h c1
      · exact h
    refine ⟨hl.1, cI (C_bounded hl) ?_⟩
    rintro x m ⟨D', rfl, hF, hx⟩
    refine ⟨_, rfl, D', rfl, hF.mono (fun q j h => ⟨c1, h⟩), ?_⟩
    rw [hx]
    unfold zgiven lawO
    rw [if_neg c1]
    show zlaw _ _ _ (D o 0) (D (rR ρ c 3) 2) (D (rR ρ (rR ρ o 2) 0) 0) = zlaw _ _ _ (D o 0) (cut 7 (D (c + 1)) 2) (cut 20 (D (o + 1 + 1)) 0)
    rw [cut_in (by decide) (by decide), cut_in (by decide) (by decide), hc.2.1, s1, r1.2.1]
  · unfold zgiven lawO
    rw [if_pos c1]
theorem C_carry {l w : Nat} {i t : Int} (hs : SSt ρ o) (hc : SCup ρ c) (hl : l = 0 ∨ SLaw ρ l) (hw : SWk ρ w) (l0 : 1 ≤ D c 0) (l1 : D c 0 ≤ 19) (ht : 0 ≤ D o 0) (hl0 : 0 ≤ D (c + 1) 5) (hl1 : D (c + 1) 5 ≤ 20)
    (hi0 : 0 ≤ i) (hi1 : i < D w 4) (hi2 : D w 4 ≤ 1000) (hd : c + 2 < o ∨ o + 7 < c) (dw : w + 4 < o ∨ o + 7 < w) (dl : l = 0 ∨ ((l + 2 < o ∨ o + 7 < l) ∧ (l + 2 < c ∨ c + 2 < l) ∧ (l + 2 < w ∨ w + 4 < l))) :
    Cl (d + 4) 0 0 mX5_carry [vr o, vr c, vr l, vr w, vi i, vi t] (D, ρ) (KI (fun r m => ∃ D', m = (D', ρ) ∧ Fr (fun q _ => (o ≤ q ∧ q ≤ o + 7) ∨ (l ≠ 0 ∧ q = l + 2)) D D' ∧ (r, stv D' o) = zcarry (cupv D c) (lawO D l) (wkv D w) i t (stv D o))) := by
  have hs' := hs
  obtain ⟨s0, s1, s2, s3, r1, r2, s4, s5⟩ := hs
  obtain ⟨w0, ⟨w1, w2, w3, w4⟩, ⟨x1, x2, x3, x4⟩, y1, y2, y3, y4⟩ := hw
  refine Cl_of mb_X5_carry (by show 6 ≤ 8; decide) (sg_X5_carry_0 ⟨w0, ?_⟩)
  rw [show mR (D, ρ) w 0 = w + 1 from w1, show mR (D, ρ) w 2 = w + 3 from w3]
  refine ⟨Or.inl x1, bnd (N := 1000) y1 hi0 (by show i < 1000; omega), Or.inl x3, bnd (N := 1000) y3 hi0 (by show i < 1000; omega), s0, cI (C_wander (D := D) hs') ?_⟩
  rintro g m1 ⟨D1, rfl, h1, hg, v1⟩
  have hF1 : Fr (fun q _ => o ≤ q ∧ q ≤ o + 7) D D1 := h1.mono (fun q j h => by omega)
  have c0 : ∀ k, D1 c k = D c k := fun k => hF1 c k (by omega)
  have c1 : D1 (c + 1) 5 = D (c + 1) 5 := hF1 (c + 1) 5 (by omega)
  have o0 : D1 o 0 = D o 0 := h1 o 0 (by omega)
  refine ⟨s0, cI (C_given (D := D1) hs' hc hl (by rw [c0]; exact l0) (by rw [c0]; exact l1) (by rw [o0]; exact ht) (by rw [c1]; exact hl0) (by rw [c1]; exact hl1)) ?_⟩
  rintro x2' m2 ⟨D2, rfl, h2, hx2⟩
  rw [show mR (D2, ρ) w 1 = w + 2 from w2]
  refine ⟨w0, Or.inl x2, bnd (N := 1000) y2 hi0 (by show i < 1000; omega), fun v hv => ?_⟩
  have hv : v = wAc (wkv D w) i := by
    rw [hv]
    show D2 (w + 2) i = cut (D w 4) (D (w + 2)) i
    rw [cut_in hi0 hi1, h2 (w + 2) i (by omega), hF1 (w + 2) i (by omega)]
  have hal : mD (D, ρ) (w + 1) i = wAl (wkv D w) i := (cut_in hi0 hi1).symm
  have hwa : mD (D, ρ) (w + 3) i = wWan (wkv D w) i := (cut_in hi0 hi1).symm
  have cv1 : cupv D1 c = cupv D c := cupv_fr hF1 (fun q j a b => by omega)
  have lv1 : lawO D1 l = lawO D l := by
    by_cases e : l = 0
    · unfold lawO
      rw [if_pos e, if_pos e]
    · exact lawO_fr hF1 (fun j => ⟨by omega, by omega⟩)
  rw [hwa] at hg v1
  rw [hal, cv1, lv1, v1] at hx2
  have c2 : ∀ k, D2 c k = D c k := fun k => by rw [h2 c k (by omega), c0]
  have o2 : D2 o 0 = D o 0 := by rw [h2 o 0 (by omega), o0]
  have cv2 : cupv D2 c = cupv D c := by rw [cupv_fr h2 (fun q j a b => by omega), cv1]
  have sv2 : stv D2 o = zwans (wWan (wkv D w) i) (stv D o) := by rw [stv_fr h2 (fun q j a b => by omega), v1]
  have fin : ∀ (D3 : DD), Fr (fun q _ => o ≤ q ∧ q ≤ o + 7) D2 D3 → Fr (fun q _ => (o ≤ q ∧ q ≤ o + 7) ∨ (l ≠ 0 ∧ q = l + 2)) D D3 := fun D3 h3 =>
    ((hF1.mono (fun q j h => Or.inl h)).trans (h2.mono (fun q j h => Or.inr h))).trans (h3.mono (fun q j h => Or.inl h))
  refine ⟨fun ct => ⟨s0, cI (C_spass (D := D2) hs' hc (by rw [c2]; exact l0) (by rw [c2]; exact l1) hd (by rw [o2]; exact ht)) ?_⟩, fun ct => ⟨s0, cI (C_spass (D := D2) hs' hc (by rw [c2]; exact l0) (by rw [c2]; exact l1) hd (by rw [o2]; exact ht)) ?_⟩⟩
  · rintro x3 m3 ⟨D3, rfl, h3, v3⟩
    refine ⟨_, rfl, D3, rfl, fin D3 h3, ?_⟩
    rw [v3, cv2, sv2, hv, hx2, hg]
    unfold zcarry
    rw [if_pos ct]
  · rintro x3 m3 ⟨D3, rfl, h3, v3⟩
    refine ⟨_, rfl, D3, rfl, fin D3 h3, ?_⟩
    rw [v3, cv2, sv2, hv, hx2, hg]
    unfold zcarry
    rw [if_neg ct]
end SC
