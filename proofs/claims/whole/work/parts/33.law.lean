/-! ===== what a LAW gives; a TICK of a WALK ===== -/
def SLaw (ρ : Rho) (l : Nat) : Prop := rK ρ l = 3 ∧ rR ρ l 0 = l + 1 ∧ rR ρ l 1 = l + 2 ∧ rK ρ (l + 1) = 20 ∧ rK ρ (l + 2) = 20 ∧ rN ρ (l + 1) = 40 ∧ rN ρ (l + 2) = 40
theorem SLaw.f {ρ : Rho} {l : Nat} (h : SLaw ρ l) : rK ρ (rR ρ l 0) = 20 ∧ rK ρ (rR ρ l 1) = 20 ∧ rN ρ (rR ρ l 0) = 40 ∧ rN ρ (rR ρ l 1) = 40 := by
  obtain ⟨k0, k1, k2, k3, k4, k5, k6⟩ := h
  rw [k1, k2]
  exact ⟨k3, k4, k5, k6⟩
def lawv (D : DD) (l : Nat) : List Int := lst (D (l + 1)) (min (D l 2) 40)
/-- a stack in an array: the deepest at 0 -/
def Stk (f : Int → Int) : List Int → Prop
  | [] => True
  | a :: r => f (r.length : Int) = a ∧ Stk f r
theorem Stk_zu {f : Int → Int} {j x : Int} : ∀ {st : List Int}, (st.length : Int) ≤ j → Stk f st → Stk (zu f j x) st
  | [], _, _ => trivial
  | a :: r, hj, h => by
    rw [List.length_cons] at hj
    exact ⟨(zu_ne (by omega)).trans h.1, Stk_zu (by omega) h.2⟩
theorem C_isIn {d : Nat} {x lo hi : Int} {μ : Mem} : Cl d 0 0 mX9_isIn [vi x, vi lo, vi hi] μ (KI (fun r m => r = bi (lo ≤ x ∧ x ≤ hi) ∧ m = μ)) :=
  Cl_of mb_X9_isIn (by show 3 ≤ 3; decide) (sg_X9_isIn_0 ⟨fun c => ⟨_, rfl, (bi_0 (by omega)).symm, rfl⟩, fun c => ⟨fun c2 => ⟨_, rfl, (bi_0 (by omega)).symm, rfl⟩, fun c2 => ⟨_, rfl, (bi_1 (by omega)).symm, rfl⟩⟩⟩)
theorem C_joined {d : Nat} {x a b : Int} {μ : Mem} : Cl d 0 0 mX2_joined [vi x, vi a, vi b] μ (KI (fun r m => r = zjoin x a b ∧ m = μ)) := by
  refine Cl_of mb_X2_joined (by show 3 ≤ 3; decide) (sg_X2_joined_0 ⟨fun c => ⟨fun c2 => ⟨c2, _, rfl, ?_, rfl⟩, fun c2 => ⟨_, rfl, ?_, rfl⟩⟩, fun c => ⟨_, rfl, ?_, rfl⟩, fun c => ⟨_, rfl, ?_, rfl⟩, fun c => ⟨_, rfl, ?_, rfl⟩⟩) <;> unfold zjoin
  · rw [if_neg (by omega), if_neg (by omega), if_neg (by omega), if_neg c2]
  · rw [if_neg (by omega), if_neg (by omega), if_neg (by omega), if_pos c2]
  · rw [if_neg (by omega), if_neg (by omega), if_pos c]
  · rw [if_neg (by omega), if_pos c]
  · rw [if_pos c]
theorem C_named {d : Nat} {x p s t f h : Int} {μ : Mem} : Cl d 0 0 mX2_named [vi x, vi p, vi s, vi t, vi f, vi h] μ (KI (fun r m => r = zname x p s t f h ∧ m = μ)) := by
  refine Cl_of mb_X2_named (by show 6 ≤ 6; decide) (sg_X2_named_0 ⟨fun c => ⟨_, rfl, ?_, rfl⟩, fun c => ⟨_, rfl, ?_, rfl⟩, fun c => ⟨_, rfl, ?_, rfl⟩, fun c => ⟨_, rfl, ?_, rfl⟩, fun c => ⟨_, rfl, ?_, rfl⟩⟩) <;> unfold zname
  · rw [if_neg (by omega), if_neg (by omega), if_neg (by omega), if_neg (by omega)]
  · rw [if_neg (by omega), if_neg (by omega), if_neg (by omega), if_pos c]
  · rw [if_neg (by omega), if_neg (by omega), if_pos c]
  · rw [if_neg (by omega), if_pos c]
  · rw [if_pos c]
theorem zev_neg {p s t f h a : Int} {r : List Int} : zev p s t f h (-5) (a :: r) = w32 (-a) :: r := rfl
theorem zev_one {p s t f h a x : Int} (h5 : x ≠ -5) : zev p s t f h x [a] = zpush p s t f h x [a] := by
  show (if x = -5 then w32 (-a) :: [] else zpush p s t f h x [a]) = _
  rw [if_neg h5]
theorem zev_two {p s t f h a b x : Int} {r : List Int} (h5 : x ≠ -5) : zev p s t f h x (a :: b :: r) = if -4 ≤ x ∧ x ≤ -1 then zjoin x b a :: r else zpush p s t f h x (a :: b :: r) := by
  show (if x = -5 then w32 (-a) :: (b :: r) else if -4 ≤ x ∧ x ≤ -1 then zjoin x b a :: r else zpush p s t f h x (a :: b :: r)) = _
  rw [if_neg h5]
theorem C_bounded {d l : Nat} {p s t f h : Int} {D : DD} {ρ : Rho} (hl : SLaw ρ l) :
    Cl (d + 1) 0 0 mX2_bounded [vr l, vi p, vi s, vi t, vi f, vi h] (D, ρ) (KI (fun r m => ∃ D', m = (D', ρ) ∧ Fr (fun q _ => q = l + 2) D D' ∧ r = zlaw (lawv D l) p s t f h)) := by
  obtain ⟨f1, f2, f3, f4⟩ := hl.f
  obtain ⟨k0, k1, k2, k3, k4, k5, k6⟩ := hl
  refine Cl_of mb_X2_bounded (by show 6 ≤ 9; decide) (sg_X2_bounded_0 ?_)
  refine Wp.loop (σ := Int × Int) (fun z => [some (vr l), some (vi p), some (vi s), some (vi t), some (vi f), some (vi h), some (vi z.1), some (vi z.2), none])
    (fun z μ => ∃ (D' : DD) (st : List Int), μ = (D', ρ) ∧ Fr (fun q _ => q = l + 2) D D' ∧ 0 ≤ z.2 ∧ z.2 ≤ 40 ∧ z.2 ≤ max 0 (D l 2) ∧ st = (lst (D (l + 1)) z.2).foldl (fun st x => zev p s t f h x st) [] ∧ z.1 = st.length ∧ st.length ≤ 40 ∧ Stk (D' (l + 2)) st)
    (fun z => (40 - z.2).toNat) ?_ (0, 0) (D, ρ) ⟨D, [], rfl, Fr.refl, by decide, by decide, by omega, by rw [lst_0 (by decide)]; rfl, rfl, by decide, trivial⟩
  rintro ⟨top, i⟩ μ ⟨D', st, rfl, hF, hi0, hi1, hi2, hst, htop, hlen, hstk⟩ ih
  dsimp only at hi0 hi1 hi2 hst htop ih ⊢
  have eS : mD (D', ρ) l 2 = D l 2 := hF l 2 (by omega)
  have eC : D' (l + 1) = D (l + 1) := hF.obj (fun j => by omega)
  have e0 : mR (D', ρ) l 0 = l + 1 := k1
  have e1 : ∀ E : DD, mR (E, ρ) l 1 = l + 2 := fun _ => k2
  -- behind the loop
  have fin : D l 2 ≤ i ∨ 40 ≤ i → Wp (d + 1) 0 0 mX2_bounded 170 [some (vr l), some (vi p), some (vi s), some (vi t), some (vi f), some (vi h), some (vi top), some (vi i), none] [] (D', ρ) (KI (fun r m => ∃ D', m = (D', ρ) ∧ Fr (fun q _ => q = l + 2) D D' ∧ r = zlaw (lawv D l) p s t f h)) := by
    intro hend
    have hz : zlaw (lawv D l) p s t f h = ztop st := by
      unfold zlaw lawv
      rw [hst]
      by_cases hn : 0 ≤ D l 2
      · rw [show min (D l 2) 40 = i by omega]
      · rw [lst_0 (n := min (D l 2) 40) (by omega), lst_0 (n := i) (by omega)]
    rw [hz]
    refine sg_X2_bounded_170 ⟨fun c => ⟨_, rfl, D', rfl, hF, ?_⟩, fun c => ⟨k0, Or.inl f2, ?_⟩⟩
    · match st, htop with
      | [], _ => rfl
      | a :: r, h1 => rw [List.length_cons] at h1; omega
    · rw [w32_id (by omega) (by omega), e1]
      refine ⟨bnd (N := 40) k6 (by omega) (by show top - 1 < 40; omega), cP C_between ⟨_, rfl, D', rfl, hF, ?_⟩⟩
      match st, htop, hstk with
      | [], h1, _ => rw [List.length_nil] at h1; omega
      | a :: r, h1, h2 =>
        show btw (D' (l + 2) (top - 1)) (-500) 500 = btw a (-500) 500
        rw [List.length_cons] at h1
        rw [show top - 1 = (r.length : Int) by omega, h2.1]
  -- one thing more
  have next : ∀ (E : DD) (st' : List Int) (top' : Int), i < 40 → i < D l 2 → Fr (fun q _ => q = l + 2) D E → st' = zev p s t f h (D (l + 1) i) st → top' = st'.length → st'.length ≤ 40 → Stk (E (l + 2)) st' →
      Wp (d + 1) 0 0 mX2_bounded 6 [some (vr l), some (vi p), some (vi s), some (vi t), some (vi f), some (vi h), some (vi top'), some (vi (w32 (i + 1))), none] [] (E, ρ) (KI (fun r m => ∃ D', m = (D', ρ) ∧ Fr (fun q _ => q = l + 2) D D' ∧ r = zlaw (lawv D l) p s t f h)) := by
    intro E st' top' hi3 hi4 hE hst' htop' hlen' hstk'
    rw [w32_id (by omega) (by omega)]
    refine ih (top', i + 1) (E, ρ) ⟨E, st', rfl, hE, by dsimp only; omega, by dsimp only; omega, by dsimp only; omega, ?_, htop', hlen', hstk'⟩ (by dsimp only; omega)
    rw [hst', lst_s hi0, List.foldl_append, ← hst]
    rfl
  have push : i < 40 → i < D l 2 → zev p s t f h (D (l + 1) i) st = zpush p s t f h (D (l + 1) i) st →
      Wp (d + 1) 0 0 mX2_bounded 122 [some (vr l), some (vi p), some (vi s), some (vi t), some (vi f), some (vi h), some (vi top), some (vi i), some (vi (D (l + 1) i))] [] (D', ρ) (KI (fun r m => ∃ D', m = (D', ρ) ∧ Fr (fun q _ => q = l + 2) D D' ∧ r = zlaw (lawv D l) p s t f h)) := by
    intro hi3 hi4 hz
    have n1 : (mN (D', ρ) (mR (D', ρ) l 1) : Int) = 40 := by show ((rN ρ (rR ρ l 1) : Nat) : Int) = 40; rw [f4]; rfl
    have grow : ∀ x : Int, st.length < 40 → zpush p s t f h (D (l + 1) i) st = x :: st → ∀ v2, v2 = w32 (top + 1) → ∀ v3, v3 = w32 (i + 1) → Wp (d + 1) 0 0 mX2_bounded 6 [some (vr l), some (vi p), some (vi s), some (vi t), some (vi f), some (vi h), some (vi v2), some (vi v3), none] [] (wr D' (l + 2) top x, ρ) (KI (fun r m => ∃ D', m = (D', ρ) ∧ Fr (fun q _ => q = l + 2) D D' ∧ r = zlaw (lawv D l) p s t f h)) := by
      rintro x hx hp v2 rfl v3 rfl
      rw [w32_id (x := top + 1) (by omega) (by omega)]
      refine next _ (x :: st) (top + 1) hi3 hi4 (hF.wr rfl) (by rw [hz, hp]) (by rw [List.length_cons]; omega) (by rw [List.length_cons]; omega) ?_
      rw [wr_A, htop]
      exact ⟨zu_at, Stk_zu (Int.le_refl _) hstk⟩
    refine sg_X2_bounded_122 ⟨k0, ka f2, ?_⟩
    rw [n1, e1]
    refine ⟨fun c v1 hv => ?_, fun c => ⟨fun c2 => cP C_named ⟨k4, bnd (N := 40) k6 (by omega) (by show top < 40; omega), ?_⟩, fun c2 => ⟨k4, ⟨by omega, by omega⟩, ?_⟩⟩⟩
    · rw [hv]
      exact next D' st top hi3 hi4 hF (by rw [hz]; unfold zpush; rw [if_neg (by omega)]) htop hlen hstk
    · rintro m2 rfl
      exact grow _ (by omega) (by unfold zpush; rw [if_pos (by omega), if_pos c2])
    · rintro m2 rfl
      exact grow _ (by omega) (by unfold zpush; rw [if_pos (by omega), if_neg c2])
  have n0 : (mN (D', ρ) (mR (D', ρ) l 0) : Int) = 40 := by show ((rN ρ (rR ρ l 0) : Nat) : Int) = 40; rw [f3]; rfl
  refine sg_X2_bounded_6 ⟨k0, fun c => fin (by omega), fun c => ⟨ka f1, ?_⟩⟩
  rw [n0, e0]
  refine ⟨fun c2 => fin (Or.inr c2), fun c2 => ⟨Or.inl k3, ⟨hi0, by omega⟩, ?_⟩⟩
  rintro v1 hv
  have hv : v1 = D (l + 1) i := by rw [hv]; show D' (l + 1) i = _; rw [eC]
  subst hv
  have seg69 : ¬ (D (l + 1) i = -5 ∧ 1 ≤ top) → Wp (d + 1) 0 0 mX2_bounded 69 [some (vr l), some (vi p), some (vi s), some (vi t), some (vi f), some (vi h), some (vi top), some (vi i), some (vi (D (l + 1) i))] [] (D', ρ) (KI (fun r m => ∃ D', m = (D', ρ) ∧ Fr (fun q _ => q = l + 2) D D' ∧ r = zlaw (lawv D l) p s t f h)) := by
    intro hn
    refine sg_X2_bounded_69 (cB C_isIn (fun hy => yE ⟨fun c3 => ?_, fun c3 v2 hv2 => ⟨k0, Or.inl f2, ?_⟩⟩) (fun hy => nE ?_))
    · refine push (by omega) (by omega) ?_
      match st, htop with
      | [], _ => rfl
      | [a], h1 => exact zev_one (by intro z; rw [List.length_singleton] at h1; exact hn ⟨z, by omega⟩)
      | a :: b :: r, h1 => rw [List.length_cons, List.length_cons] at h1; omega
    · have hv2 : v2 = top - 1 := by rw [hv2, w32_id (by omega) (by omega)]; omega
      subst hv2
      rw [w32_id (x := top - 1 - 1) (by omega) (by omega), e1]
      refine ⟨bnd (N := 40) k6 (by omega) (by show top - 1 - 1 < 40; omega), bnd (N := 40) k6 (by omega) (by show top - 1 < 40; omega), cP C_joined ⟨k4, bnd (N := 40) k6 (by omega) (by show top - 1 - 1 < 40; omega), ?_⟩⟩
      rintro m3 rfl v2 rfl
      match st, htop, hstk, hlen with
      | [], h1, _, _ => rw [List.length_nil] at h1; omega
      | [a], h1, _, _ => rw [List.length_singleton] at h1; omega
      | a :: b :: r, h1, h2, h3 =>
        rw [List.length_cons, List.length_cons] at h1 h3
        have t1 : top - 1 = ((b :: r).length : Int) := by rw [List.length_cons]; omega
        have t2 : top - 1 - 1 = (r.length : Int) := by omega
        refine next (wr D' (l + 2) (top - 1 - 1) (zjoin (D (l + 1) i) (D' (l + 2) (top - 1 - 1)) (D' (l + 2) (top - 1)))) (zjoin (D (l + 1) i) b a :: r) (top - 1) (by omega) (by omega) (hF.wr rfl) ?_ (by rw [List.length_cons]; omega) (by rw [List.length_cons]; omega) ?_
        · rw [zev_two (by omega), if_pos hy]
        · rw [wr_A, t2]
          refine ⟨?_, Stk_zu (Int.le_refl _) h2.2.2⟩
          rw [zu_at, t1, h2.1, h2.2.1]
    · refine push (by omega) (by omega) ?_
      match st, htop with
      | [], _ => rfl
      | [a], h1 => exact zev_one (by intro z; rw [List.length_singleton] at h1; exact hn ⟨z, by omega⟩)
      | a :: b :: r, h1 =>
        rw [List.length_cons, List.length_cons] at h1
        rw [zev_two (by intro z; exact hn ⟨z, by omega⟩), if_neg hy]
  refine ⟨fun c3 => seg69 (fun z => c3 z.1), fun c3 => ⟨fun c4 => seg69 (fun z => by omega), fun c4 => ⟨Or.inl f2, ?_⟩⟩⟩
  rw [w32_id (x := top - 1) (by omega) (by omega), e1]
  refine ⟨bnd (N := 40) k6 (by omega) (by show top - 1 < 40; omega), k4, bnd (N := 40) k6 (by omega) (by show top - 1 < 40; omega), ?_⟩
  rintro m1 rfl v2 rfl
  match st, htop, hstk, hlen with
  | [], h1, _, _ => rw [List.length_nil] at h1; omega
  | a :: r, h1, h2, h3 =>
    rw [List.length_cons] at h1 h3
    have t1 : top - 1 = (r.length : Int) := by omega
    refine next (wr D' (l + 2) (top - 1) (w32 (-(D' (l + 2) (top - 1))))) (w32 (-a) :: r) top (by omega) (by omega) (hF.wr rfl) ?_ (by rw [List.length_cons]; omega) (by rw [List.length_cons]; omega) ?_
    · rw [c3]
      exact zev_neg.symm
    · rw [wr_A, t1]
      refine ⟨?_, Stk_zu (Int.le_refl _) h2.2⟩
      rw [zu_at, h2.1]
