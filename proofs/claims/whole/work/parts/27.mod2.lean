/-! ===== the model's second loop of flows ===== -/
def zsum : Nat → (Int → Int) → Int
  | 0, _ => 0
  | n + 1, h => zsum n h + h n
theorem zsum_zu {h : Int → Int} {j x : Int} (h0 : 0 ≤ j) : ∀ n : Nat, zsum n (zu h j x) = zsum n h + (if j < n then x - h j else 0)
  | 0 => by
    rw [if_neg (by omega)]
    rfl
  | n + 1 => by
    have ih := zsum_zu (h := h) (x := x) h0 n
    show zsum n (zu h j x) + zu h j x n = zsum n h + h n + _
    rw [ih]
    by_cases e : j = n
    · subst e
      rw [zu_at, if_neg (by omega), if_pos (by omega)]
      omega
    · rw [zu_ne (Ne.symm e)]
      by_cases e2 : j < n
      · rw [if_pos e2, if_pos (by omega)]
        omega
      · rw [if_neg e2, if_neg (by omega)]
        omega
theorem zsum_ge {h : Int → Int} : ∀ n : Nat, (∀ j : Int, 0 ≤ j → j < n → 0 ≤ h j) → 0 ≤ zsum n h ∧ ∀ j : Int, 0 ≤ j → j < n → h j ≤ zsum n h
  | 0, _ => ⟨Int.le_refl _, fun j h0 h1 => by omega⟩
  | n + 1, hp => by
    obtain ⟨i1, i2⟩ := zsum_ge n (fun j h0 h1 => hp j h0 (by omega))
    have hn := hp n (by omega) (by omega)
    refine ⟨by show 0 ≤ zsum n h + h n; omega, fun j h0 h1 => ?_⟩
    show h j ≤ zsum n h + h n
    by_cases e : j = n
    · subst e; omega
    · have := i2 j h0 (by omega); omega
/-- heights are never negative, and there is no more than 20000 in a row -/
def HOK (h : Int → Int) : Prop := (∀ j : Int, 0 ≤ j → j < 20 → 0 ≤ h j) ∧ zsum 20 h ≤ 20000
theorem HOK.at {h : Int → Int} (hh : HOK h) {j : Int} (h0 : 0 ≤ j) (h1 : j < 20) : 0 ≤ h j ∧ h j ≤ 20000 :=
  ⟨hh.1 j h0 h1, Int.le_trans ((zsum_ge 20 hh.1).2 j h0 h1) hh.2⟩
theorem btw_rng {x lo hi : Int} (h : lo ≤ hi) : lo ≤ btw x lo hi ∧ btw x lo hi ≤ hi := by
  unfold btw
  by_cases c : lo ≤ x
  · rw [if_pos c]
    by_cases c2 : x ≤ hi
    · rw [if_pos c2]; omega
    · rw [if_neg c2]; omega
  · rw [if_neg c]; omega
theorem zgoes_rng {h f : Int → Int} {g : Int} (hh : HOK h) (h0 : 0 ≤ g) (h1 : g ≤ 18) : -(h (g + 1)) ≤ zgoes h f g ∧ zgoes h f g ≤ h g := by
  obtain ⟨a1, a2⟩ := hh.at h0 (by omega)
  obtain ⟨b1, b2⟩ := hh.at (j := g + 1) (by omega) (by omega)
  unfold zgoes
  rw [w32_id (x := -(h (g + 1))) (by omega) (by omega)]
  exact btw_rng (by omega)
theorem HOK_zmh {h f : Int → Int} {g : Int} (hh : HOK h) (h0 : 0 ≤ g) (h1 : g ≤ 18) : HOK (zmh h f g) := by
  obtain ⟨a1, a2⟩ := hh.at h0 (by omega)
  obtain ⟨b1, b2⟩ := hh.at (j := g + 1) (by omega) (by omega)
  obtain ⟨c1, c2⟩ := zgoes_rng (f := f) hh h0 h1
  have sum := hh.2
  unfold zmh
  rw [w32_id (x := h g - zgoes h f g) (by omega) (by omega)]
  have hs : h g + h (g + 1) ≤ 20000 := by
    have z := zsum_zu (h := h) (j := g + 1) (x := 0) (by omega) 20
    rw [if_pos (by omega)] at z
    have := (zsum_ge 20 (h := zu h (g + 1) 0) (fun j q0 q1 => by
      by_cases e : j = g + 1
      · rw [e, zu_at]; exact Int.le_refl _
      · rw [zu_ne e]; exact hh.1 j q0 (by omega))).2 g h0 (by omega)
    rw [zu_ne (show g ≠ g + 1 by omega)] at this
    omega
  rw [w32_id (x := h (g + 1) + zgoes h f g) (by omega) (by omega)]
  refine ⟨fun j q0 q1 => ?_, ?_⟩
  · by_cases e : j = g + 1
    · rw [e, zu_at]; omega
    · rw [zu_ne e]
      by_cases e2 : j = g
      · rw [e2, zu_at]; omega
      · rw [zu_ne e2]; exact hh.1 j q0 q1
  · rw [zsum_zu (by omega), if_pos (by omega), zsum_zu h0, if_pos (by omega), zu_ne (show g + 1 ≠ g by omega)]
    omega
theorem can_neg {w h h' : Int} (w0 : -300000000 ≤ w) (a1 : 0 ≤ h) (b1 : 0 ≤ h') (b2 : h' ≤ 20000) (c : w ≤ 0) : w32 (-(min (w32 (-w)) h')) = btw w (w32 (-h')) h := by
  rw [w32_id (x := -w) (by omega) (by omega), w32_id (x := -h') (by omega) (by omega), w32_id (by omega) (by omega)]
  unfold btw
  by_cases c1 : -h' ≤ w
  · rw [if_pos c1, if_pos (by omega)]; omega
  · rw [if_neg c1]; omega
theorem can_pos {w h h' : Int} (a1 : 0 ≤ h) (b1 : 0 ≤ h') (b2 : h' ≤ 20000) (c : ¬ w ≤ 0) : min w h = btw w (w32 (-h')) h := by
  rw [w32_id (x := -h') (by omega) (by omega)]
  unfold btw
  rw [if_pos (by omega)]
  by_cases c1 : w ≤ h
  · rw [if_pos c1]; omega
  · rw [if_neg c1]; omega
def zB (μ : Mem) (a : Nat) (r : Int) (p : (Int → Int) × (Int → Int)) : Mem := sA (sA μ (mR μ a 7) (blk r p.2 (mD μ (mR μ a 7)))) (mR μ a 6) (blk r p.1 (mD μ (mR μ a 6)))
section ZB
variable {μ : Mem} {a : Nat} {r j x : Int} {p : (Int → Int) × (Int → Int)}
theorem zB_h : mD (zB μ a r p) (mR μ a 6) = blk r p.1 (mD μ (mR μ a 6)) := sA_at
theorem zB_f (h : mR μ a 6 ≠ mR μ a 7) : mD (zB μ a r p) (mR μ a 7) = blk r p.2 (mD μ (mR μ a 7)) := by
  unfold zB
  rw [sA_ne (Ne.symm h), sA_at]
theorem zB_o {o : Nat} (h6 : o ≠ mR μ a 6) (h7 : o ≠ mR μ a 7) : mD (zB μ a r p) o = mD μ o := by
  unfold zB
  rw [sA_ne h6, sA_ne h7]
theorem zB_rh (h0 : 0 ≤ j) (h1 : j < 20) : mD (zB μ a r p) (mR μ a 6) (20 * r + j) = p.1 j := by rw [zB_h, blk_at h0 h1]
theorem zB_rf (h : mR μ a 6 ≠ mR μ a 7) (h0 : 0 ≤ j) (h1 : j < 20) : mD (zB μ a r p) (mR μ a 7) (20 * r + j) = p.2 j := by rw [zB_f h, blk_at h0 h1]
theorem zB_sh (h0 : 0 ≤ j) (h1 : j < 20) : sD (zB μ a r p) (mR μ a 6) (20 * r + j) x = zB μ a r (zu p.1 j x, p.2) := by
  rw [sD_sA, zB_h, blk_zu h0 h1]
  exact sA_sA
theorem zB_sf (h : mR μ a 6 ≠ mR μ a 7) (h0 : 0 ≤ j) (h1 : j < 20) : sD (zB μ a r p) (mR μ a 7) (20 * r + j) x = zB μ a r (p.1, zu p.2 j x) := by
  rw [sD_sA, zB_f h, blk_zu h0 h1]
  unfold zB
  rw [sA_comm (μ := sA μ (mR μ a 7) (blk r p.2 (mD μ (mR μ a 7)))) h, sA_sA]
end ZB
theorem zmv_succ {i : Nat} {p0 : (Int → Int) × (Int → Int)} : zmv (i + 1) p0 = (zmh (zmv i p0).1 (zmv i p0).2 i, zmf (zmv i p0).1 (zmv i p0).2 i) := rfl
