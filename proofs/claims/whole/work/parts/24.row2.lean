/-! ===== Row.move, runOver, pass ===== -/
def zgoes (h f : Int → Int) (g : Int) : Int := btw (w32 ((f g).tdiv 8)) (w32 (-(h (g + 1)))) (h g)
def zmh (h f : Int → Int) (g : Int) : Int → Int := zu (zu h g (w32 (h g - zgoes h f g))) (g + 1) (w32 (h (g + 1) + zgoes h f g))
def zmf (h f : Int → Int) (g : Int) : Int → Int := if zgoes h f g = w32 ((f g).tdiv 8) then f else zu f g (w32 (8 * zgoes h f g))
theorem move_45 {d a : Nat} {g v x : Int} {μ : Mem} (hr : RowOK μ a) (h0 : 0 ≤ g) (h1 : g ≤ 18) :
    Wp (d + 1) 0 0 mX4_move 45 [some (vr a), some (vi g), some (vi v), some (vi x)] [] μ (KV (fun m => m = sA μ (mR μ a 0) (zu (zu (mD μ (mR μ a 0)) g (w32 (mD μ (mR μ a 0) g - x))) (g + 1) (w32 (mD μ (mR μ a 0) (g + 1) + x))))) := by
  obtain ⟨r1, r2, r3, r4, r5, r6⟩ := hr
  have wi : w32 (g + 1) = g + 1 := w32_id (by omega) (by omega)
  refine sg_X4_move_45 ⟨r1, Or.inl r2, ⟨h0, by omega⟩, r2, ⟨h0, by omega⟩, fun m1 e1 => ?_⟩
  subst e1
  refine ⟨⟨by omega, by show _ < (mN μ (mR μ a 0) : Int); omega⟩, ⟨by omega, by show _ < (mN μ (mR μ a 0) : Int); omega⟩, fun m2 e2 => ⟨rfl, ?_⟩⟩
  rw [e2]
  show sD (sD μ (mR μ a 0) g _) (mR μ a 0) (w32 (g + 1)) (w32 (mD (sD μ (mR μ a 0) g _) (mR μ a 0) (w32 (g + 1)) + x)) = _
  rw [wi, sD_sA, sD_sA, sA_sA, sA_at, zu_ne (show g + 1 ≠ g by omega)]
theorem C_move {d a : Nat} {g : Int} {μ : Mem} (hr : RowOK μ a) (h0 : 0 ≤ g) (h1 : g ≤ 18) :
    Cl (d + 1) 0 0 mX4_move [vr a, vi g] μ (KV (fun m => m = sA (sA μ (mR μ a 1) (zmf (mD μ (mR μ a 0)) (mD μ (mR μ a 1)) g)) (mR μ a 0) (zmh (mD μ (mR μ a 0)) (mD μ (mR μ a 1)) g))) := by
  have hr' := hr
  obtain ⟨r1, r2, r3, r4, r5, r6⟩ := hr
  have wi : w32 (g + 1) = g + 1 := w32_id (by omega) (by omega)
  refine Cl_of mb_X4_move (by show 2 ≤ 4; decide) (sg_X4_move_0 ⟨r1, Or.inl r3, ⟨h0, by omega⟩, fun v1 e1 => ⟨Or.inl r2, ⟨by omega, by omega⟩, ⟨h0, by omega⟩, 0, 0, _, C_between, Nat.le_refl _, Nat.le_refl _, fun x1 m1 hK => ?_⟩⟩)
  obtain ⟨e2, e3⟩ := hK
  rw [wi, e1] at e2
  have e2 : x1 = zgoes (mD μ (mR μ a 0)) (mD μ (mR μ a 1)) g := e2
  rw [e3]
  refine ⟨fun c => ?_, fun c => ⟨r1, r3, ⟨h0, by omega⟩, fun m2 e4 => ?_⟩⟩
  · refine Wp.weak ?_ (move_45 hr' h0 h1)
    rintro r m' ⟨k1, k2⟩
    refine ⟨k1, ?_⟩
    rw [k2]
    have ef : zmf (mD μ (mR μ a 0)) (mD μ (mR μ a 1)) g = mD μ (mR μ a 1) := if_pos (by rw [← e2, c, e1])
    rw [ef, sA_self, e2]
    rfl
  · rw [e4]
    refine Wp.weak ?_ (move_45 (μ := sD μ (mR μ a 1) g (w32 (8 * x1))) hr' h0 h1)
    rintro r m' ⟨k1, k2⟩
    refine ⟨k1, ?_⟩
    rw [k2]
    show sA (sD μ (mR μ a 1) g (w32 (8 * x1))) (mR μ a 0) (zu (zu (mD (sD μ (mR μ a 1) g (w32 (8 * x1))) (mR μ a 0)) g (w32 (mD (sD μ (mR μ a 1) g (w32 (8 * x1))) (mR μ a 0) g - x1))) (g + 1) (w32 (mD (sD μ (mR μ a 1) g (w32 (8 * x1))) (mR μ a 0) (g + 1) + x1))) = _
    have ef : zmf (mD μ (mR μ a 0)) (mD μ (mR μ a 1)) g = zu (mD μ (mR μ a 1)) g (w32 (8 * x1)) := by
      unfold zmf
      rw [if_neg (by rw [← e2, ← e1]; exact c), e2]
    rw [sD_sA, sA_ne r6, ef, e2]
    rfl
def zov (h : Int → Int) (rim lid c : Int) : Int := if 0 < w32 (h c - rim) then w32 (w32 (h c - rim) - w32 ((w32 (w32 (h c - rim) * lid)).tdiv 100)) else 0
def zoh (h : Int → Int) (rim lid c : Int) : Int → Int := zu h c (w32 (h c - zov h rim lid c))
theorem C_runOver {d a c : Nat} {g : Int} {μ : Mem} (hr : RowOK μ a) (hc : CupOK μ c) (h0 : 0 ≤ g) (h1 : g ≤ 19) :
    Cl d 0 0 mX4_runOver [vr a, vr c, vi g] μ (KI (fun r m => r = zov (mD μ (mR μ a 0)) (mD μ c 1) (mD μ (mR μ c 3) 4) g ∧ m = sA μ (mR μ a 0) (zoh (mD μ (mR μ a 0)) (mD μ c 1) (mD μ (mR μ c 3) 4) g))) := by
  obtain ⟨r1, r2, r3, r4, r5, r6⟩ := hr
  obtain ⟨c1, c2, c3, c4, c5, c6, c7⟩ := hc
  refine Cl_of mb_X4_runOver (by show 3 ≤ 5; decide) (Wp.rng fun hg => sg_X4_runOver_0 ⟨r1, Or.inl r2, ⟨h0, by omega⟩, c1, fun v1 e1 => ⟨fun cc => ⟨Or.inl c2, ⟨by omega, by omega⟩, fun v2 e2 => ⟨⟨h0, by omega⟩, r2, ⟨h0, by omega⟩, fun m1 e3 => ⟨_, rfl, ?_, ?_⟩⟩⟩, fun cc => ⟨_, rfl, ?_, ?_⟩⟩⟩)
  · unfold zov
    rw [← e1, if_pos cc, e2]
  · have : v2 = zov (mD μ (mR μ a 0)) (mD μ c 1) (mD μ (mR μ c 3) 4) g := by
      unfold zov
      rw [← e1, if_pos cc, e2]
    rw [e3, sD_sA, this]
    rfl
  · unfold zov
    rw [← e1, if_neg cc]
  · have : zov (mD μ (mR μ a 0)) (mD μ c 1) (mD μ (mR μ c 3) 4) g = 0 := by
      unfold zov
      rw [← e1, if_neg cc]
    unfold zoh
    rw [this]
    have hh := (hg (mR μ a 0) g).2 (by omega)
    unfold r32 at hh
    have : zu (mD μ (mR μ a 0)) g (w32 (mD μ (mR μ a 0) g - 0)) = mD μ (mR μ a 0) := by
      funext k
      unfold zu
      by_cases e : k = g
      · rw [if_pos e, e, Int.sub_zero, w32_id hh.1 hh.2]
      · rw [if_neg e]
    rw [this, sA_self]
def zmv : Nat → (Int → Int) × (Int → Int) → (Int → Int) × (Int → Int)
  | 0, p => p
  | n + 1, p => (zmh (zmv n p).1 (zmv n p).2 n, zmf (zmv n p).1 (zmv n p).2 n)
