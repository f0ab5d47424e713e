/-! ===== a TICK of one ROW: functions over Int, and that the class's Row does so ===== -/
def zu (f : Int → Int) (j x : Int) : Int → Int := fun k => if k = j then x else f k
theorem zu_at {f : Int → Int} {j x : Int} : zu f j x j = x := if_pos rfl
theorem zu_ne {f : Int → Int} {j x k : Int} (h : k ≠ j) : zu f j x k = f k := if_neg h
/-- array a has become g -/
def sA (μ : Mem) (a : Nat) (g : Int → Int) : Mem := (fun o k => if o = a then g k else mD μ o k, mR μ, mK μ, mN μ, mX μ)
theorem sA_at {μ : Mem} {a : Nat} {g : Int → Int} : mD (sA μ a g) a = g := by
  funext k
  exact if_pos rfl
theorem sA_ne {μ : Mem} {a o : Nat} {g : Int → Int} (h : o ≠ a) : mD (sA μ a g) o = mD μ o := by
  funext k
  exact if_neg h
theorem sA_self {μ : Mem} {a : Nat} : sA μ a (mD μ a) = μ := by
  unfold sA
  have : (fun o k => if o = a then mD μ a k else mD μ o k) = mD μ := by
    funext o k
    by_cases e : o = a
    · rw [if_pos e, e]
    · rw [if_neg e]
  rw [this]
  rfl
theorem sA_sA {μ : Mem} {a : Nat} {g g' : Int → Int} : sA (sA μ a g) a g' = sA μ a g' := by
  unfold sA
  have : (fun o k => if o = a then g' k else mD ((fun o k => if o = a then g k else mD μ o k, mR μ, mK μ, mN μ, mX μ) : Mem) o k) = (fun o k => if o = a then g' k else mD μ o k) := by
    funext o k
    by_cases e : o = a
    · rw [if_pos e, if_pos e]
    · rw [if_neg e, if_neg e]
      exact if_neg e
  rw [this]
  rfl
theorem sA_comm {μ : Mem} {a b : Nat} {g g' : Int → Int} (h : a ≠ b) : sA (sA μ a g) b g' = sA (sA μ b g') a g := by
  unfold sA
  have : (fun o k => if o = b then g' k else mD ((fun o k => if o = a then g k else mD μ o k, mR μ, mK μ, mN μ, mX μ) : Mem) o k) = (fun o k => if o = a then g k else mD ((fun o k => if o = b then g' k else mD μ o k, mR μ, mK μ, mN μ, mX μ) : Mem) o k) := by
    funext o k
    show (if o = b then g' k else if o = a then g k else mD μ o k) = (if o = a then g k else if o = b then g' k else mD μ o k)
    by_cases e : o = b
    · rw [if_pos e, if_neg (fun e2 => h (e2.symm.trans e)), if_pos e]
    · rw [if_neg e, if_neg e]
  rw [this]
  rfl
theorem sD_sA {μ : Mem} {a : Nat} {j x : Int} : sD μ a j x = sA μ a (zu (mD μ a) j x) := by
  unfold sD sA zu
  have : (fun o k => if o = a ∧ k = j then x else mD μ o k) = (fun o k => if o = a then (if k = j then x else mD μ a k) else mD μ o k) := by
    funext o k
    by_cases e : o = a
    · subst e
      rw [if_pos rfl]
      by_cases e2 : k = j
      · rw [if_pos ⟨rfl, e2⟩, if_pos e2]
      · rw [if_neg (fun z => e2 z.2), if_neg e2]
    · rw [if_neg e, if_neg (fun z => e z.1)]
  rw [this]
def dless (s : Int → Int) : Int := min 100 (w32 (s 1 + w32 (s 2 * s 3)))
def dfl1 (sf push : Int) (h f : Int → Int) (g : Int) : Int := w32 (w32 (f g + w32 ((w32 (sf * w32 (h g - h (g + 1)))).tdiv 16)) + push)
def dflow (sf less push : Int) (h f ho : Int → Int) (g : Int) : Int :=
  btw (w32 ((w32 (w32 (dfl1 sf push h f g - w32 ((w32 (dfl1 sf push h f g * less)).tdiv 100)) * ho g)).tdiv 100)) (-8000) 8000
def drv (n sf less push : Int) (h f ho : Int → Int) : Int → Int := fun j => if 0 ≤ j ∧ j < n then dflow sf less push h f ho j else f j
theorem drv_0 {sf less push : Int} {h f ho : Int → Int} : drv 0 sf less push h f ho = f := by
  funext j
  exact if_neg (by omega)
theorem drv_s {n sf less push : Int} {h f ho : Int → Int} (h0 : 0 ≤ n) : zu (drv n sf less push h f ho) n (dflow sf less push h f ho n) = drv (n + 1) sf less push h f ho := by
  funext j
  show (if j = n then dflow sf less push h f ho n else if 0 ≤ j ∧ j < n then dflow sf less push h f ho j else f j) = if 0 ≤ j ∧ j < n + 1 then dflow sf less push h f ho j else f j
  by_cases e : j = n
  · subst e
    rw [if_pos rfl, if_pos (by omega)]
  · rw [if_neg e]
    by_cases e2 : 0 ≤ j ∧ j < n
    · rw [if_pos e2, if_pos (by omega)]
    · rw [if_neg e2, if_neg (by omega)]
def RowOK (μ : Mem) (a : Nat) : Prop := mK μ a = 5 ∧ mK μ (mR μ a 0) = 20 ∧ mK μ (mR μ a 1) = 20 ∧ mN μ (mR μ a 0) = 20 ∧ mN μ (mR μ a 1) = 20 ∧ mR μ a 0 ≠ mR μ a 1
def CupOK (μ : Mem) (c : Nat) : Prop := mK μ c = 1 ∧ mK μ (mR μ c 3) = 20 ∧ mN μ (mR μ c 3) = 7 ∧ mK μ (mR μ c 4) = 20 ∧ mN μ (mR μ c 4) = 20 ∧ 1 ≤ mD μ c 0 ∧ mD μ c 0 ≤ 19
theorem C_drive {d a c : Nat} {push : Int} {μ : Mem} (hr : RowOK μ a) (hc : CupOK μ c) (h4 : mR μ c 4 ≠ mR μ a 1) :
    Cl (d + 1) 0 0 mX4_drive [vr a, vr c, vi push] μ (KV (fun m => m = sA μ (mR μ a 1) (drv (mD μ c 0) (mD μ (mR μ c 3) 0) (dless (mD μ (mR μ c 3))) push (mD μ (mR μ a 0)) (mD μ (mR μ a 1)) (mD μ (mR μ c 4))))) := by
  obtain ⟨r1, r2, r3, r4, r5, r6⟩ := hr
  obtain ⟨c1, c2, c3, c4, c5, c6, c7⟩ := hc
  refine Cl_of mb_X4_drive (by show 3 ≤ 8; decide) (sg_X4_drive_0 ⟨c1, fun v1 e1 => ⟨Or.inl c2, ⟨by omega, by omega⟩, fun v2 e2 => ⟨⟨by omega, by omega⟩, ⟨by omega, by omega⟩, ⟨by omega, by omega⟩, 0, 0, _, C_min, Nat.le_refl _, Nat.le_refl _, fun x1 m1 hK => ?_⟩⟩⟩)
  obtain ⟨e3, e4⟩ := hK
  rw [e4]
  have e3 : x1 = dless (mD μ (mR μ c 3)) := e3
  rw [← e1, ← e2, ← e3]
  have main : ∀ (k : Nat) (i : Int), 0 ≤ i → i + k = v1 → Wp (d + 1) 0 0 mX4_drive 43 [some (vr a), some (vr c), some (vi push), some (vi v1), some (vi v2), some (vi x1), some (vi i), none] [] (sA μ (mR μ a 1) (drv i v2 x1 push (mD μ (mR μ a 0)) (mD μ (mR μ a 1)) (mD μ (mR μ c 4)))) (KV (fun m => m = sA μ (mR μ a 1) (drv v1 v2 x1 push (mD μ (mR μ a 0)) (mD μ (mR μ a 1)) (mD μ (mR μ c 4))))) := by
    intro k
    induction k with
    | zero =>
      intro i h0 h1
      have e : i = v1 := by omega
      subst e
      exact sg_X4_drive_43 ⟨fun _ => ⟨rfl, rfl⟩, fun c => absurd (Int.le_refl _) c⟩
    | succ k ih =>
      intro i h0 h1
      have wi : w32 (i + 1) = i + 1 := w32_id (by omega) (by omega)
      have eh : mD (sA μ (mR μ a 1) (drv i v2 x1 push (mD μ (mR μ a 0)) (mD μ (mR μ a 1)) (mD μ (mR μ c 4)))) (mR μ a 0) = mD μ (mR μ a 0) := sA_ne r6
      have ef : mD (sA μ (mR μ a 1) (drv i v2 x1 push (mD μ (mR μ a 0)) (mD μ (mR μ a 1)) (mD μ (mR μ c 4)))) (mR μ a 1) i = mD μ (mR μ a 1) i := by
        rw [sA_at]
        exact if_neg (by omega)
      have eo : mD (sA μ (mR μ a 1) (drv i v2 x1 push (mD μ (mR μ a 0)) (mD μ (mR μ a 1)) (mD μ (mR μ c 4)))) (mR μ c 4) = mD μ (mR μ c 4) := sA_ne h4
      refine sg_X4_drive_43 ⟨fun cc => by omega, fun cc => ⟨r1, Or.inl r3, ⟨h0, by show i < (mN μ (mR μ a 1) : Int); omega⟩, Or.inl r2, ⟨h0, by show i < (mN μ (mR μ a 0) : Int); omega⟩, ⟨by omega, by show _ < (mN μ (mR μ a 0) : Int); omega⟩, fun w1 f1 w2 f2 => ⟨c1, Or.inl c4, ⟨h0, by show i < (mN μ (mR μ _ 4) : Int); omega⟩, 0, 0, _, C_between, Nat.le_refl _, Nat.le_refl _, fun y1 m2 hK => ?_⟩⟩⟩
      obtain ⟨f3, f4⟩ := hK
      rw [f4]
      refine ⟨r3, ⟨h0, by show i < (mN μ (mR μ a 1) : Int); omega⟩, fun m3 f5 w3 f6 => ?_⟩
      rw [wi] at f6
      change w1 = w32 (w32 (mD (sA μ (mR μ a 1) _) (mR μ a 1) i + w32 ((w32 (v2 * w32 (mD (sA μ (mR μ a 1) _) (mR μ a 0) i - mD (sA μ (mR μ a 1) _) (mR μ a 0) (w32 (i + 1))))).tdiv 16)) + push) at f1
      rw [ef, eh, wi] at f1
      change y1 = btw (w32 ((w32 (w2 * mD (sA μ (mR μ a 1) _) (mR μ c 4) i)).tdiv 100)) (-8000) 8000 at f3
      rw [eo, f2, f1] at f3
      have f3 : y1 = dflow v2 x1 push (mD μ (mR μ a 0)) (mD μ (mR μ a 1)) (mD μ (mR μ c 4)) i := f3
      change m3 = sD (sA μ (mR μ a 1) _) (mR μ a 1) i y1 at f5
      rw [sD_sA, sA_sA, sA_at, f3, drv_s h0] at f5
      rw [f5, f6]
      exact ih (i + 1) (by omega) (by omega)
  have := main v1.toNat 0 (by omega) (by omega)
  rw [drv_0, sA_self] at this
  exact this
