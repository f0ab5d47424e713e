/-! ===== memories as pairs (numbers, the rest); frames; cut functions; views of cups, rows, states ===== -/
abbrev DD : Type := Nat → Int → Int
def wr (D : DD) (a : Nat) (j x : Int) : DD := fun o k => if o = a ∧ k = j then x else D o k
def wA (D : DD) (a : Nat) (g : Int → Int) : DD := fun o k => if o = a then g k else D o k
theorem sD_mk {D : DD} {ρ : Rho} {a : Nat} {j x : Int} : sD (D, ρ) a j x = (wr D a j x, ρ) := rfl
theorem sA_mk {D : DD} {ρ : Rho} {a : Nat} {g : Int → Int} : sA (D, ρ) a g = (wA D a g, ρ) := rfl
section WR
variable {D : DD} {a b o : Nat} {i j k x y : Int} {g : Int → Int}
theorem wr_at : wr D a j x a j = x := if_pos ⟨rfl, rfl⟩
theorem wr_o (h : o ≠ a) : wr D a j x o = D o := by funext k; exact if_neg (fun z => h z.1)
theorem wr_j (h : k ≠ j) : wr D a j x o k = D o k := if_neg (fun z => h z.2)
theorem wr_A : wr D a j x a = zu (D a) j x := by
  funext k
  unfold wr zu
  by_cases e : k = j
  · rw [if_pos ⟨rfl, e⟩, if_pos e]
  · rw [if_neg (fun z => e z.2), if_neg e]
theorem wA_at : wA D a g a = g := by funext k; exact if_pos rfl
theorem wA_o (h : o ≠ a) : wA D a g o = D o := by funext k; exact if_neg h
end WR
/-- only what F names has changed -/
def Fr (F : Nat → Int → Prop) (D D' : DD) : Prop := ∀ o j, ¬ F o j → D' o j = D o j
theorem Fr.refl {F : Nat → Int → Prop} {D : DD} : Fr F D D := fun _ _ _ => rfl
theorem Fr.trans {F : Nat → Int → Prop} {D D' D'' : DD} (h : Fr F D D') (h' : Fr F D' D'') : Fr F D D'' := fun o j n => (h' o j n).trans (h o j n)
theorem Fr.mono {F F' : Nat → Int → Prop} {D D' : DD} (h : Fr F D D') (s : ∀ o j, F o j → F' o j) : Fr F' D D' := fun o j n => h o j (fun z => n (s o j z))
theorem Fr.wr {F : Nat → Int → Prop} {D D' : DD} {a : Nat} {i x : Int} (h : Fr F D D') (s : F a i) : Fr F D (wr D' a i x) := fun o j n => by
  have : ¬ (o = a ∧ j = i) := fun z => n (by rw [z.1, z.2]; exact s)
  show (if o = a ∧ j = i then x else D' o j) = D o j
  rw [if_neg this]
  exact h o j n
theorem Fr.wA {F : Nat → Int → Prop} {D D' : DD} {a : Nat} {g : Int → Int} (h : Fr F D D') (s : ∀ i, F a i) : Fr F D (wA D' a g) := fun o j n => by
  have : ¬ o = a := fun z => n (by rw [z]; exact s j)
  show (if o = a then g j else D' o j) = D o j
  rw [if_neg this]
  exact h o j n
theorem Fr.obj {F : Nat → Int → Prop} {D D' : DD} (h : Fr F D D') {o : Nat} (n : ∀ j, ¬ F o j) : D' o = D o := by funext j; exact h o j (n j)
def cut (n : Int) (f : Int → Int) : Int → Int := fun k => if 0 ≤ k ∧ k < n then f k else 0
section CUT
variable {n j k x : Int} {f g : Int → Int}
theorem cut_in (h0 : 0 ≤ k) (h1 : k < n) : cut n f k = f k := if_pos ⟨h0, h1⟩
theorem cut_out (h : ¬ (0 ≤ k ∧ k < n)) : cut n f k = 0 := if_neg h
theorem cut_ext (h : ∀ k, 0 ≤ k → k < n → f k = g k) : cut n f = cut n g := by
  funext k
  unfold cut
  by_cases e : 0 ≤ k ∧ k < n
  · rw [if_pos e, if_pos e, h k e.1 e.2]
  · rw [if_neg e, if_neg e]
theorem cut_cut : cut n (cut n f) = cut n f := cut_ext (fun _ h0 h1 => cut_in h0 h1)
theorem cut_zu (h0 : 0 ≤ j) (h1 : j < n) : cut n (zu f j x) = zu (cut n f) j x := by
  funext k
  show (if 0 ≤ k ∧ k < n then (if k = j then x else f k) else 0) = (if k = j then x else if 0 ≤ k ∧ k < n then f k else 0)
  by_cases e : 0 ≤ k ∧ k < n
  · rw [if_pos e, if_pos e]
  · rw [if_neg e, if_neg e, if_neg (by omega)]
theorem cut_zu' : cut n (zu (cut n f) j x) = cut n (zu f j x) := cut_ext (fun k h0 h1 => by
  unfold zu
  rw [cut_in h0 h1])
theorem cut_eq (h : cut n f = cut n g) (h0 : 0 ≤ k) (h1 : k < n) : f k = g k := by
  have := congrFun h k
  rwa [cut_in h0 h1, cut_in h0 h1] at this
end CUT
/-! calls, in the form of the laid segments -/
section CALLS
variable {d mc ms bc bs : Nat} {M : MI} {av : List AV} {μ : Mem}
theorem cI {K : Int → Mem → Prop} {P : Nat → Nat → Int → Mem → Prop} (hC : Cl d 0 0 M av μ (KI K)) (k : ∀ x m, K x m → P 0 0 x m) :
    ∃ (mc1 ms1 : Nat) (K1 : Int → Mem → Prop), Cl d mc1 ms1 M av μ (KI K1) ∧ mc1 ≤ bc ∧ ms1 ≤ bs ∧ (∀ x1 m1, K1 x1 m1 → P mc1 ms1 x1 m1) := ⟨0, 0, K, hC, Nat.zero_le _, Nat.zero_le _, k⟩
theorem cL {K : Int → Mem → Prop} {P : Nat → Nat → Int → Mem → Prop} (hC : Cl d 0 0 M av μ (KL K)) (k : ∀ x m, K x m → P 0 0 x m) :
    ∃ (mc1 ms1 : Nat) (K1 : Int → Mem → Prop), Cl d mc1 ms1 M av μ (KL K1) ∧ mc1 ≤ bc ∧ ms1 ≤ bs ∧ (∀ x1 m1, K1 x1 m1 → P mc1 ms1 x1 m1) := ⟨0, 0, K, hC, Nat.zero_le _, Nat.zero_le _, k⟩
theorem cR {K : Nat → Mem → Prop} {P : Nat → Nat → Nat → Mem → Prop} (hC : Cl d 0 0 M av μ (KR K)) (k : ∀ x m, K x m → P 0 0 x m) :
    ∃ (mc1 ms1 : Nat) (K1 : Nat → Mem → Prop), Cl d mc1 ms1 M av μ (KR K1) ∧ mc1 ≤ bc ∧ ms1 ≤ bs ∧ (∀ x1 m1, K1 x1 m1 → P mc1 ms1 x1 m1) := ⟨0, 0, K, hC, Nat.zero_le _, Nat.zero_le _, k⟩
theorem cV {K : Mem → Prop} {P : Nat → Nat → Mem → Prop} (hC : Cl d 0 0 M av μ (KV K)) (k : ∀ m, K m → P 0 0 m) :
    ∃ (mc1 ms1 : Nat) (K1 : Mem → Prop), Cl d mc1 ms1 M av μ (KV K1) ∧ mc1 ≤ bc ∧ ms1 ≤ bs ∧ (∀ m1, K1 m1 → P mc1 ms1 m1) := ⟨0, 0, K, hC, Nat.zero_le _, Nat.zero_le _, k⟩
/-- a call that only answers -/
theorem cP {x : Int} {P : Nat → Nat → Int → Mem → Prop} (hC : Cl d 0 0 M av μ (KI (fun r m => r = x ∧ m = μ))) (k : P 0 0 x μ) :
    ∃ (mc1 ms1 : Nat) (K1 : Int → Mem → Prop), Cl d mc1 ms1 M av μ (KI K1) ∧ mc1 ≤ bc ∧ ms1 ≤ bs ∧ (∀ x1 m1, K1 x1 m1 → P mc1 ms1 x1 m1) :=
  ⟨0, 0, _, hC, Nat.zero_le _, Nat.zero_le _, fun x1 m1 h => by rw [h.1, h.2]; exact k⟩
def bi (p : Prop) [Decidable p] : Int := if p then 1 else 0
theorem bi_1 {p : Prop} [Decidable p] (h : p) : bi p = 1 := if_pos h
theorem bi_0 {p : Prop} [Decidable p] (h : ¬ p) : bi p = 0 := if_neg h
/-- a call that answers yes or no -/
theorem cB {p : Prop} [Decidable p] {P : Nat → Nat → Int → Mem → Prop} (hC : Cl d 0 0 M av μ (KI (fun r m => r = bi p ∧ m = μ))) (k1 : p → P 0 0 1 μ) (k0 : ¬ p → P 0 0 0 μ) :
    ∃ (mc1 ms1 : Nat) (K1 : Int → Mem → Prop), Cl d mc1 ms1 M av μ (KI K1) ∧ mc1 ≤ bc ∧ ms1 ≤ bs ∧ (∀ x1 m1, K1 x1 m1 → P mc1 ms1 x1 m1) :=
  ⟨0, 0, _, hC, Nat.zero_le _, Nat.zero_le _, fun x1 m1 h => by
    rw [h.1, h.2]
    by_cases e : p
    · rw [bi_1 e]; exact k1 e
    · rw [bi_0 e]; exact k0 e⟩
/-- behind a yes, behind a no (the branches as the segments write them) -/
theorem yN {A B : Prop} (h : A) : (¬ (1 : Int) = 0 → A) ∧ ((1 : Int) = 0 → B) := ⟨fun _ => h, fun c => absurd c (by decide)⟩
theorem nN {A B : Prop} (h : B) : (¬ (0 : Int) = 0 → A) ∧ ((0 : Int) = 0 → B) := ⟨fun c => absurd rfl c, fun _ => h⟩
theorem yE {A B : Prop} (h : B) : ((1 : Int) = 0 → A) ∧ (¬ (1 : Int) = 0 → B) := ⟨fun c => absurd c (by decide), fun _ => h⟩
theorem nE {A B : Prop} (h : A) : ((0 : Int) = 0 → A) ∧ (¬ (0 : Int) = 0 → B) := ⟨fun _ => h, fun c => absurd rfl c⟩
end CALLS
theorem ka {k : Nat} {P : Prop} (h : k = 20) : (20 ≤ k ∧ k ≤ 28) ∨ P := Or.inl (by omega)
theorem kb {k : Nat} {P : Prop} (h : 20 ≤ k) (h' : k ≤ 28) : (20 ≤ k ∧ k ≤ 28) ∨ P := Or.inl ⟨h, h'⟩
theorem bnd {n N : Nat} {x : Int} (hN : n = N) (h0 : 0 ≤ x) (h1 : x < N) : 0 ≤ x ∧ x < (n : Int) := ⟨h0, by rw [hN]; exact h1⟩
/-- a loop: what holds ahead of each round, a measure that falls -/
theorem Wp.loop {σ : Type} {d bc bs : Nat} {M : MI} {pc : Nat} {Q : Option (Option AV) → Mem → Prop} (ls : σ → List (Option AV)) (I : σ → Mem → Prop) (ms : σ → Nat)
    (step : ∀ s μ, I s μ → (∀ s' μ', I s' μ' → ms s' < ms s → Wp d bc bs M pc (ls s') [] μ' Q) → Wp d bc bs M pc (ls s) [] μ Q) : ∀ s μ, I s μ → Wp d bc bs M pc (ls s) [] μ Q := by
  have main : ∀ (n : Nat) s μ, ms s < n → I s μ → Wp d bc bs M pc (ls s) [] μ Q := by
    intro n
    induction n with
    | zero => intro s μ h; omega
    | succ n ih =>
      intro s μ h hI
      exact step s μ hI (fun s' μ' hI' hm => ih s' μ' (by omega) hI')
  exact fun s μ hI => main (ms s + 1) s μ (by omega) hI
/-! views -/
abbrev Cv : Type := Int × Int × Int × (Int → Int) × (Int → Int)
def cLast (c : Cv) : Int := c.1
def cRim (c : Cv) : Int := c.2.1
def cFill (c : Cv) : Int := c.2.2.1
def cSet (c : Cv) : Int → Int := c.2.2.2.1
def cHole (c : Cv) : Int → Int := c.2.2.2.2
abbrev Rv : Type := (Int → Int) × (Int → Int) × Int
/-- tick, drawn, along, across, seen -/
abbrev Sv : Type := Int × Int × Rv × Rv × (Int → Int)
def sTick (s : Sv) : Int := s.1
def sDrawn (s : Sv) : Int := s.2.1
def sAl (s : Sv) : Rv := s.2.2.1
def sAc (s : Sv) : Rv := s.2.2.2.1
def sSeen (s : Sv) : Int → Int := s.2.2.2.2
def cupv (D : DD) (c : Nat) : Cv := (D c 0, D c 1, D c 2, cut 7 (D (c + 1)), cut 20 (D (c + 2)))
def rowv (D : DD) (a : Nat) : Rv := (cut 20 (D (a + 1)), cut 20 (D (a + 2)), D a 2)
def stv (D : DD) (o : Nat) : Sv := (D o 0, D o 1, rowv D (o + 1), rowv D (o + 4), cut 21 (D (o + 7)))
/-! shapes -/
def rR (ρ : Rho) : Nat → Int → Nat := ρ.1
def rK (ρ : Rho) : Nat → Nat := ρ.2.1
def rN (ρ : Rho) : Nat → Nat := ρ.2.2.1
def SRow (ρ : Rho) (a : Nat) : Prop := rK ρ a = 5 ∧ rR ρ a 0 = a + 1 ∧ rR ρ a 1 = a + 2 ∧ rK ρ (a + 1) = 20 ∧ rK ρ (a + 2) = 20 ∧ rN ρ (a + 1) = 20 ∧ rN ρ (a + 2) = 20
def SCup (ρ : Rho) (c : Nat) : Prop := rK ρ c = 1 ∧ rR ρ c 3 = c + 1 ∧ rR ρ c 4 = c + 2 ∧ rK ρ (c + 1) = 20 ∧ rK ρ (c + 2) = 20 ∧ rN ρ (c + 1) = 7 ∧ rN ρ (c + 2) = 20
def SSt (ρ : Rho) (o : Nat) : Prop := rK ρ o = 6 ∧ rR ρ o 2 = o + 1 ∧ rR ρ o 3 = o + 4 ∧ rR ρ o 4 = o + 7 ∧ SRow ρ (o + 1) ∧ SRow ρ (o + 4) ∧ rK ρ (o + 7) = 20 ∧ rN ρ (o + 7) = 21
/-- a cup as it may be -/
def COK (c : Cv) : Prop := 1 ≤ cLast c ∧ cLast c ≤ 19 ∧ 1 ≤ cRim c ∧ cRim c ≤ 999 ∧ 0 ≤ cFill c ∧ cFill c ≤ cRim c ∧ (1 ≤ cSet c 0 ∧ cSet c 0 ≤ 16) ∧ (0 ≤ cSet c 1 ∧ cSet c 1 ≤ 50) ∧ (0 ≤ cSet c 2 ∧ cSet c 2 ≤ 9) ∧ (0 ≤ cSet c 3 ∧ cSet c 3 ≤ 20) ∧ (0 ≤ cSet c 4 ∧ cSet c 4 ≤ 100) ∧ (0 ≤ cSet c 5 ∧ cSet c 5 ≤ 20) ∧ (0 ≤ cSet c 6 ∧ cSet c 6 ≤ 3) ∧ (∀ j, 0 ≤ j → j < 20 → 0 ≤ cHole c j ∧ cHole c j ≤ 100)
section CLW
variable {d mc ms : Nat} {M : MI} {av : List AV} {μ : Mem} {K K' : Option (Option AV) → Mem → Prop}
theorem Cl.weak (h : ∀ r m, K r m → K' r m) (hC : Cl d mc ms M av μ K) : Cl d mc ms M av μ K' := by
  intro l G hl
  refine MetFree.mono (hC l G hl) (fun _ _ h => h) (fun _ _ _ _ _ h => h) ?_
  rintro a st o t - (⟨⟨⟨r, μ', hk, rest⟩, hF⟩, hL⟩ | ⟨q, ho, E, ce, L, ⟨⟨hE, μ', hk, hR⟩, hF⟩, rest⟩)
  · exact Or.inl ⟨⟨⟨r, μ', h _ _ hk, rest⟩, hF⟩, hL⟩
  · exact Or.inr ⟨q, ho, E, ce, L, ⟨⟨hE, μ', h _ _ hk, hR⟩, hF⟩, rest⟩
/-- what every start of a call gives: the ranges of its numbers -/
theorem Cl.pre (h : oks av → rngD μ → Cl d mc ms M av μ K) : Cl d mc ms M av μ K := by
  intro l G hl p e ha hc hk s m args below hf happ hp hk'
  exact h hp.2.1 hp.2.2.1.2.2.2.2.1 l G hl p e ha hc hk s m args below hf happ hp hk'
theorem KI.weak {P P' : Int → Mem → Prop} (h : ∀ r m, P r m → P' r m) : ∀ r m, KI P r m → KI P' r m := fun _ _ ⟨x, e, k⟩ => ⟨x, e, h _ _ k⟩
theorem KV.weak {P P' : Mem → Prop} (h : ∀ m, P m → P' m) : ∀ r m, KV P r m → KV P' r m := fun _ _ ⟨e, k⟩ => ⟨e, h _ k⟩
theorem KR.weak {P P' : Nat → Mem → Prop} (h : ∀ r m, P r m → P' r m) : ∀ r m, KR P r m → KR P' r m := fun _ _ ⟨x, e, k⟩ => ⟨x, e, h _ _ k⟩
end CLW
