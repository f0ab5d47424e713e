/-! ===== a LAW, read from the TEXT ===== -/
/-- where it is read; the code so far -/
abbrev Ls : Type := Ps × List Int
def lnegs (t : Int → Int) (en : Int) : Nat → Ps → Bool → Ps × Bool
  | 0, p, b => (p, b)
  | n + 1, p, b => if zskip t en 45 p = true then lnegs t en n (p.1 + 1, -1) (!b) else (p, b)
def lname (t : Int → Int) (en : Int) (p : Ps) : Ls :=
  if pk t en p.1 = 112 then ((p.1 + 1, -1), [-6]) else if pk t en p.1 = 115 then ((p.1 + 1, -1), [-7]) else if pk t en p.1 = 116 then ((p.1 + 1, -1), [-8])
  else if pk t en p.1 = 102 then ((p.1 + 1, -1), [-9]) else if pk t en p.1 = 104 then ((p.1 + 1, -1), [-10]) else ((p.1, p.1), [])
/-- behind the signs -/
def lcore (t : Int → Int) (en : Int) (f : Ps → Ls) (can : Bool) (q : Ps) : Ls :=
  if 48 ≤ pk t en q.1 ∧ pk t en q.1 ≤ 57 then (znumP t en 0 999 q, [znumV t en 0 999 q])
  else if can = true ∧ pk t en q.1 = 40 then (zneed t en 41 (f (q.1 + 1, -1)).1, (f (q.1 + 1, -1)).2) else lname t en q
def lneg (b : Bool) (x : Ls) : Ls := (x.1, if b = true then x.2 ++ [-5] else x.2)
def lthing (t : Int → Int) (en : Int) (f : Ps → Ls) (can : Bool) (p : Ps) : Ls := lneg (lnegs t en 40 p false).2 (lcore t en f can (lnegs t en 40 p false).1)
/-- two signs that join; n times at most -/
def lmore (t : Int → Int) (en c1 e1 c2 e2 : Int) (g : Ps → Ls) : Nat → Ls → Ls
  | 0, x => x
  | n + 1, x => if zskip t en c1 x.1 = true then lmore t en c1 e1 c2 e2 g n ((g (x.1.1 + 1, -1)).1, (x.2 ++ (g (x.1.1 + 1, -1)).2) ++ [e1])
    else if zskip t en c2 x.1 = true then lmore t en c1 e1 c2 e2 g n ((g (x.1.1 + 1, -1)).1, (x.2 ++ (g (x.1.1 + 1, -1)).2) ++ [e2]) else x
def lprod (t : Int → Int) (en : Int) (g : Ps → Ls) (p : Ps) : Ls := lmore t en 42 (-3) 47 (-4) g 40 (g p)
def lsum (t : Int → Int) (en : Int) (g : Ps → Ls) (p : Ps) : Ls := lmore t en 43 (-1) 45 (-2) g 40 (g p)
/-- with k brackets yet to open -/
def lS (t : Int → Int) (en : Int) : Nat → Ps → Ls
  | 0 => lsum t en (lprod t en (lthing t en (fun p => (p, [])) false))
  | k + 1 => lsum t en (lprod t en (lthing t en (lS t en k) true))
def zlawr (t : Int → Int) (en : Int) : Ls := if 0 < en then lS t en 4 (0, -1) else ((0, -1), [])
/-- where it is well read, it moved on by what it tells at least -/
def Lcon (en : Int) (f : Ps → Ls) : Prop := ∀ p : Ps, p.2 = -1 → 0 ≤ p.1 → p.1 ≤ en → (f p).1.2 = -1 → p.1 + ((f p).2.length : Int) ≤ (f p).1.1 ∧ (f p).1.1 ≤ en
section LC
variable {t : Int → Int} {en : Int}
theorem pkc_lt {c a : Int} (h : pk t en a = c) (hc : 0 ≤ c) : 0 ≤ a ∧ a < en := by
  by_cases z : 0 ≤ a ∧ a < en
  · exact z
  · have : pk t en a = -1 := if_neg z
    omega
theorem zskip_at {c : Int} {p : Ps} (h : zskip t en c p = true) : p.2 = -1 ∧ pk t en p.1 = c := by
  unfold zskip at h
  rw [Bool.and_eq_true, decide_eq_true_eq, decide_eq_true_eq] at h
  exact h
theorem lnegs_con : ∀ {n : Nat} {p : Ps} {b : Bool}, p.2 = -1 → 0 ≤ p.1 → p.1 ≤ en → (lnegs t en n p b).1.2 = -1 ∧ (lnegs t en n p b).1.1 ≤ en ∧ p.1 + (if (lnegs t en n p b).2 = b then 0 else 1) ≤ (lnegs t en n p b).1.1
  | 0, p, b, h, _, h2 => by
    refine ⟨h, h2, ?_⟩
    rw [if_pos (show (lnegs t en 0 p b).2 = b from rfl)]
    show p.1 + 0 ≤ p.1
    omega
  | n + 1, p, b, h, h1, h2 => by
    have e : lnegs t en (n + 1) p b = if zskip t en 45 p = true then lnegs t en n (p.1 + 1, -1) (!b) else (p, b) := rfl
    rw [e]
    by_cases z : zskip t en 45 p = true
    · rw [if_pos z]
      have hl := pkc_lt (zskip_at z).2 (by decide)
      obtain ⟨i1, i2, i3⟩ := lnegs_con (n := n) (p := (p.1 + 1, -1)) (b := !b) rfl (by dsimp only; omega) (by dsimp only; omega)
      refine ⟨i1, i2, ?_⟩
      have i3 : p.1 + 1 + (if (lnegs t en n (p.1 + 1, -1) (!b)).2 = !b then 0 else 1) ≤ (lnegs t en n (p.1 + 1, -1) (!b)).1.1 := i3
      generalize (lnegs t en n (p.1 + 1, -1) (!b)).2 = b' at i3
      split at i3 <;> split <;> omega
    · rw [if_neg z]
      refine ⟨h, h2, ?_⟩
      rw [if_pos rfl]
      show p.1 + 0 ≤ p.1
      omega
theorem lname_con : Lcon en (lname t en) := by
  intro p h h1 h2
  unfold lname
  have one : ∀ {c x : Int}, 0 ≤ c → pk t en p.1 = c → p.1 + (([x] : List Int).length : Int) ≤ p.1 + 1 ∧ p.1 + 1 ≤ en := fun hc e => by
    have := pkc_lt e hc
    exact ⟨by show p.1 + ((1 : Nat) : Int) ≤ p.1 + 1; omega, by omega⟩
  by_cases e1 : pk t en p.1 = 112
  · rw [if_pos e1]; exact fun _ => one (by decide) e1
  rw [if_neg e1]
  by_cases e2 : pk t en p.1 = 115
  · rw [if_pos e2]; exact fun _ => one (by decide) e2
  rw [if_neg e2]
  by_cases e3 : pk t en p.1 = 116
  · rw [if_pos e3]; exact fun _ => one (by decide) e3
  rw [if_neg e3]
  by_cases e4 : pk t en p.1 = 102
  · rw [if_pos e4]; exact fun _ => one (by decide) e4
  rw [if_neg e4]
  by_cases e5 : pk t en p.1 = 104
  · rw [if_pos e5]; exact fun _ => one (by decide) e5
  rw [if_neg e5]
  intro z
  have z : p.1 = -1 := z
  omega
theorem zneed_at {c : Int} {p : Ps} (h : (zneed t en c p).2 = -1) (h1 : 0 ≤ p.1) (hc : 0 ≤ c) : (zneed t en c p).1 = p.1 + 1 ∧ p.1 + 1 ≤ en := by
  have g := zneed_g h
  unfold zneed at h ⊢
  rw [if_pos g] at h ⊢
  by_cases e : pk t en p.1 = c
  · rw [if_pos e]
    have := pkc_lt e hc
    exact ⟨rfl, by omega⟩
  · rw [if_neg e] at h
    have h : p.1 = -1 := h
    omega
theorem lcore_con {f : Ps → Ls} {can : Bool} (hf : can = true → Lcon en f) : Lcon en (lcore t en f can) := by
  intro p h h1 h2
  unfold lcore
  by_cases e1 : 48 ≤ pk t en p.1 ∧ pk t en p.1 ≤ 57
  · rw [if_pos e1]
    intro z
    have z : (znumP t en 0 999 p).2 = -1 := z
    have r3 := zdg_rng (t := t) (en := en) (n := 3) (v := 0) (a := p.1) (by decide) (by decide) h1 h2
    show p.1 + ((1 : Nat) : Int) ≤ (znumP t en 0 999 p).1 ∧ (znumP t en 0 999 p).1 ≤ en
    unfold znumP at z ⊢
    rw [if_pos h] at z ⊢
    by_cases e : (zdg t en 3 0 p.1).2 = p.1
    · rw [if_pos e] at z
      have z : p.1 = -1 := z
      omega
    · rw [if_neg e] at z ⊢
      by_cases b : 0 ≤ (zdg t en 3 0 p.1).1 ∧ (zdg t en 3 0 p.1).1 ≤ 999
      · rw [if_pos b]
        show p.1 + ((1 : Nat) : Int) ≤ (zdg t en 3 0 p.1).2 ∧ (zdg t en 3 0 p.1).2 ≤ en
        omega
      · rw [if_neg b] at z
        have z : (zdg t en 3 0 p.1).2 - 1 = -1 := z
        omega
  rw [if_neg e1]
  by_cases e2 : can = true ∧ pk t en p.1 = 40
  · rw [if_pos e2]
    intro z
    have hl := pkc_lt e2.2 (by decide)
    have z1 := zneed_g z
    have i := hf e2.1 (p.1 + 1, -1) rfl (by dsimp only; omega) (by dsimp only; omega) z1
    have i1 : p.1 + 1 + ((f (p.1 + 1, -1)).2.length : Int) ≤ (f (p.1 + 1, -1)).1.1 := i.1
    have z2 := zneed_at z (by omega) (by decide)
    show p.1 + ((f (p.1 + 1, -1)).2.length : Int) ≤ (zneed t en 41 (f (p.1 + 1, -1)).1).1 ∧ (zneed t en 41 (f (p.1 + 1, -1)).1).1 ≤ en
    omega
  · rw [if_neg e2]
    exact lname_con p h h1 h2
theorem lthing_con {f : Ps → Ls} {can : Bool} (hf : can = true → Lcon en f) : Lcon en (lthing t en f can) := by
  intro p h h1 h2 z
  obtain ⟨i1, i2, i3⟩ := lnegs_con (t := t) (n := 40) (p := p) (b := false) h h1 h2
  have z : (lcore t en f can (lnegs t en 40 p false).1).1.2 = -1 := z
  have j := lcore_con hf _ i1 (by split at i3 <;> omega) i2 z
  show p.1 + ((if (lnegs t en 40 p false).2 = true then (lcore t en f can (lnegs t en 40 p false).1).2 ++ [-5] else (lcore t en f can (lnegs t en 40 p false).1).2).length : Int) ≤ (lcore t en f can (lnegs t en 40 p false).1).1.1 ∧ _
  refine ⟨?_, j.2⟩
  by_cases b : (lnegs t en 40 p false).2 = true
  · rw [if_pos b, List.length_append]
    rw [if_neg (by rw [b]; decide)] at i3
    show p.1 + (((_ : Nat) + 1 : Nat) : Int) ≤ _
    omega
  · rw [if_neg b]
    split at i3 <;> omega
theorem lmore_con {g : Ps → Ls} {c1 e1 c2 e2 : Int} (h1 : 0 ≤ c1) (h2 : 0 ≤ c2) (hg : Lcon en g) {a : Int} (a0 : 0 ≤ a) : ∀ {n : Nat} {x : Ls}, (x.1.2 = -1 → a + (x.2.length : Int) ≤ x.1.1 ∧ x.1.1 ≤ en) → (lmore t en c1 e1 c2 e2 g n x).1.2 = -1 → a + ((lmore t en c1 e1 c2 e2 g n x).2.length : Int) ≤ (lmore t en c1 e1 c2 e2 g n x).1.1 ∧ (lmore t en c1 e1 c2 e2 g n x).1.1 ≤ en
  | 0, x, hx, z => hx z
  | n + 1, x, hx, z => by
    have e : lmore t en c1 e1 c2 e2 g (n + 1) x = if zskip t en c1 x.1 = true then lmore t en c1 e1 c2 e2 g n ((g (x.1.1 + 1, -1)).1, (x.2 ++ (g (x.1.1 + 1, -1)).2) ++ [e1])
      else if zskip t en c2 x.1 = true then lmore t en c1 e1 c2 e2 g n ((g (x.1.1 + 1, -1)).1, (x.2 ++ (g (x.1.1 + 1, -1)).2) ++ [e2]) else x := rfl
    have step : ∀ {c e3 : Int}, 0 ≤ c → zskip t en c x.1 = true → ((g (x.1.1 + 1, -1)).1.2 = -1 → a + (((x.2 ++ (g (x.1.1 + 1, -1)).2) ++ [e3]).length : Int) ≤ (g (x.1.1 + 1, -1)).1.1 ∧ (g (x.1.1 + 1, -1)).1.1 ≤ en) := fun hc hz y => by
      obtain ⟨q1, q2⟩ := zskip_at hz
      have hl := pkc_lt q2 hc
      have hx := hx q1
      have i := hg (x.1.1 + 1, -1) rfl (by dsimp only; omega) (by dsimp only; omega) y
      have i1 : x.1.1 + 1 + ((g (x.1.1 + 1, -1)).2.length : Int) ≤ (g (x.1.1 + 1, -1)).1.1 := i.1
      rw [List.length_append, List.length_append]
      refine ⟨?_, i.2⟩
      show a + ((x.2.length + (g (x.1.1 + 1, -1)).2.length + 1 : Nat) : Int) ≤ _
      omega
    rw [e] at z ⊢
    by_cases z1 : zskip t en c1 x.1 = true
    · rw [if_pos z1] at z ⊢
      exact lmore_con h1 h2 hg a0 (x := (_, _)) (step h1 z1) z
    rw [if_neg z1] at z ⊢
    by_cases z2 : zskip t en c2 x.1 = true
    · rw [if_pos z2] at z ⊢
      exact lmore_con h1 h2 hg a0 (x := (_, _)) (step h2 z2) z
    rw [if_neg z2] at z ⊢
    exact hx z
theorem lprod_con {g : Ps → Ls} (hg : Lcon en g) : Lcon en (lprod t en g) := fun p h h1 h2 z => lmore_con (by decide) (by decide) hg h1 (fun y => hg p h h1 h2 y) z
theorem lsum_con {g : Ps → Ls} (hg : Lcon en g) : Lcon en (lsum t en g) := fun p h h1 h2 z => lmore_con (by decide) (by decide) hg h1 (fun y => hg p h h1 h2 y) z
theorem lS_con : ∀ {k : Nat}, Lcon en (lS t en k)
  | 0 => lsum_con (lprod_con (lthing_con (fun z => by cases z)))
  | k + 1 => lsum_con (lprod_con (lthing_con (fun _ => lS_con)))
end LC
