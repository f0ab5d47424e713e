/-! ===== what the library's small methods answer ===== -/
def rngD (μ : Mem) : Prop := ∀ o j, (mK μ o = 21 → r64 (mD μ o j)) ∧ (mK μ o ≠ 21 → r32 (mD μ o j))
section RNG
variable {d bc bs : Nat} {M : MI} {pc : Nat} {ls : List (Option AV)} {st : List AV} {μ : Mem} {Q : Option (Option AV) → Mem → Prop}
theorem Wp.rng (k : rngD μ → Wp d bc bs M pc ls st μ Q) : Wp d bc bs M pc ls st μ Q := by
  intro p l e R s m args below meth c H locs cells slots Qf G lm hC hR
  exact k hR.2.2.2.2.1 p l e R s m args below meth c H locs cells slots Qf G lm hC hR
theorem Wp.rngN (k : (∀ o, mN μ o < 2147483648) → Wp d bc bs M pc ls st μ Q) : Wp d bc bs M pc ls st μ Q := by
  intro p l e R s m args below meth c H locs cells slots Qf G lm hC hR
  exact k hR.2.2.2.2.2 p l e R s m args below meth c H locs cells slots Qf G lm hC hR
theorem Wp.rngL {i : Nat} {x : Int} (hl : ls[i]? = some (some (vi x))) (k : r32 x → Wp d bc bs M pc ls st μ Q) : Wp d bc bs M pc ls st μ Q := by
  intro p l e R s m args below meth c H locs cells slots Qf G lm hC hR hL
  exact k (hL.ok hl) p l e R s m args below meth c H locs cells slots Qf G lm hC hR hL
end RNG
theorem C_max {d : Nat} {x y : Int} {μ : Mem} : Cl d 0 0 mJ9_max_7cf53 [vi x, vi y] μ (KI (fun r m => r = max x y ∧ m = μ)) :=
  Cl_of mb_J9_max_7cf53 (by show 2 ≤ 2; decide) (sg_J9_max_7cf53_0 ⟨fun c => ⟨_, rfl, by omega, rfl⟩, fun c => ⟨_, rfl, by omega, rfl⟩⟩)
theorem C_min {d : Nat} {x y : Int} {μ : Mem} : Cl d 0 0 mJ9_min_7cf53 [vi x, vi y] μ (KI (fun r m => r = min x y ∧ m = μ)) :=
  Cl_of mb_J9_min_7cf53 (by show 2 ≤ 2; decide) (sg_J9_min_7cf53_0 ⟨fun c => ⟨_, rfl, by omega, rfl⟩, fun c => ⟨_, rfl, by omega, rfl⟩⟩)
theorem C_abs {d : Nat} {x : Int} {μ : Mem} (h : -2147483648 < x) : Cl d 0 0 mJ9_abs_0f7a4 [vi x] μ (KI (fun r m => r = (x.natAbs : Int) ∧ m = μ)) := by
  refine Cl_of mb_J9_abs_0f7a4 (by show 1 ≤ 1; decide) (Wp.rngL (i := 0) (x := x) rfl fun hx => sg_J9_abs_0f7a4_0 ⟨fun c => ⟨_, rfl, by omega, rfl⟩, fun c => ⟨_, rfl, ?_, rfl⟩⟩)
  unfold r32 at hx
  rw [w32_id (by omega) (by omega)]
  omega
def btw (x lo hi : Int) : Int := if lo ≤ x then (if x ≤ hi then x else hi) else lo
theorem C_between {d : Nat} {x lo hi : Int} {μ : Mem} : Cl d 0 0 mX9_between [vi x, vi lo, vi hi] μ (KI (fun r m => r = btw x lo hi ∧ m = μ)) := by
  refine Cl_of mb_X9_between (by show 3 ≤ 3; decide) (sg_X9_between_0 ⟨fun c => ⟨fun c2 => ⟨_, rfl, ?_, rfl⟩, fun c2 => ⟨_, rfl, ?_, rfl⟩⟩, fun c => ⟨_, rfl, ?_, rfl⟩⟩)
  · unfold btw; rw [if_pos c, if_pos c2]
  · unfold btw; rw [if_pos c, if_neg c2]
  · unfold btw; rw [if_neg c]
def sF (μ : Mem) (a : Nat) (n x : Int) : Mem := (fun o k => if o = a ∧ 0 ≤ k ∧ k < n then x else mD μ o k, mR μ, mK μ, mN μ, mX μ)
theorem sF_0 {μ : Mem} {a : Nat} {x : Int} : sF μ a 0 x = μ := by
  unfold sF
  have : (fun o k => if o = a ∧ 0 ≤ k ∧ k < 0 then x else mD μ o k) = mD μ := by
    funext o k
    rw [if_neg (by omega)]
  rw [this]
  rfl
theorem sF_s {μ : Mem} {a : Nat} {n x : Int} (h : 0 ≤ n) : sD (sF μ a n x) a n x = sF μ a (n + 1) x := by
  unfold sD
  have : (fun o k => if o = a ∧ k = n then x else mD (sF μ a n x) o k) = mD (sF μ a (n + 1) x) := by
    funext o k
    show (if o = a ∧ k = n then x else if o = a ∧ 0 ≤ k ∧ k < n then x else mD μ o k) = if o = a ∧ 0 ≤ k ∧ k < n + 1 then x else mD μ o k
    by_cases h1 : o = a ∧ k = n
    · rw [if_pos h1, if_pos ⟨h1.1, by omega, by omega⟩]
    · rw [if_neg h1]
      by_cases h2 : o = a ∧ 0 ≤ k ∧ k < n
      · rw [if_pos h2, if_pos ⟨h2.1, by omega, by omega⟩]
      · rw [if_neg h2, if_neg (by omega)]
  rw [this]
  rfl
theorem C_fill {d : Nat} {a : Nat} {x : Int} {μ : Mem} (hk : mK μ a = 20) : Cl d 0 0 mJ7_fill_53178 [vr a, vi x] μ (KV (fun m => m = sF μ a (mN μ a) x)) := by
  refine Cl_of mb_J7_fill_53178 (by show 2 ≤ 4; decide) (Wp.rngN fun hN => sg_J7_fill_53178_0 ⟨Or.inl (by omega), fun v1 e1 => ?_⟩)
  subst e1
  have hn := hN a
  have main : ∀ (k : Nat) (i : Int), 0 ≤ i → i + k = mN μ a → Wp d 0 0 mJ7_fill_53178 5 [some (vr a), some (vi x), some (vi i), some (vi (mN μ a))] [] (sF μ a i x) (KV (fun m => m = sF μ a (mN μ a) x)) := by
    intro k
    induction k with
    | zero =>
      intro i h0 h1
      have e : i = mN μ a := by omega
      subst e
      exact sg_J7_fill_53178_5 ⟨fun _ => ⟨rfl, rfl⟩, fun c => absurd (Int.le_refl _) c⟩
    | succ k ih =>
      intro i h0 h1
      refine sg_J7_fill_53178_5 ⟨fun c => by omega, fun c => ⟨hk, ⟨h0, by show i < (mN μ a : Int); omega⟩, fun m1 e1 v1 e2 => ?_⟩⟩
      rw [w32_id (by omega) (by omega)] at e2
      subst e1 e2
      rw [sF_s h0]
      exact ih (i + 1) (by omega) (by omega)
  have := main (mN μ a) 0 (by omega) (by omega)
  rw [sF_0] at this
  exact this
