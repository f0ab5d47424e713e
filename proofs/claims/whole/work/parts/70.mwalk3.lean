/-! ===== the model's walk ===== -/
def wkm (D : DD) (i : Int) : Wv := (D 161 i, D 162 i, cut (D 161 i) (fun k => D 163 (1000 * i + k)), cut (D 161 i) (fun k => D 164 (1000 * i + k)), cut (D 161 i) (fun k => D 165 (1000 * i + k)), cut (D 161 i) (fun k => D 166 (1000 * i + k)))
def wm0 (q : Nat) (j : Int) : Prop := (q = 152 ∧ (j = 12 ∨ j = 15 ∨ (18 ≤ j ∧ j ≤ 21) ∨ j = 32 ∨ j = 33)) ∨ (167 ≤ q ∧ q ≤ 170)
def wmS (i : Int) (q : Nat) (j : Int) : Prop := wm0 q j ∨ ((q = 161 ∨ q = 162) ∧ j = i) ∨ ((163 ≤ q ∧ q ≤ 166) ∧ 1000 * i ≤ j ∧ j < 1000 * i + 1000)
def WmA (n1 : Nat) (D : DD) (W : Nat → Nat) (t : Int → Int) (n i r : Int) (m : Mem) : Prop := ∃ D' : DD, m = (D', rho n1 (uW W 12 159)) ∧ D' 152 12 = 0 ∧ D' 152 15 = 0 ∧
  (¬ (0 ≤ i ∧ i ≤ 3) ∧ r = -100 ∧ Fr wm0 D D' ∨ (0 ≤ i ∧ i ≤ 3) ∧ ¬ zwFin t n = -1 ∧ r = w32 (-1 - zwFin t n) ∧ Fr wm0 D D' ∨
    (0 ≤ i ∧ i ≤ 3) ∧ zwFin t n = -1 ∧ r = wTicks (zwalk t (min n 60)).2.1 ∧ wkm D' i = (zwalk t (min n 60)).2.1 ∧ Fr (wmS i) D D')
section ZMN
variable {t : Int → Int} {en : Int} {p : Ps}
theorem znumP_mono {lo hi : Int} (h : (znumP t en lo hi p).2 = -1) (h1 : 0 ≤ p.1) (h2 : p.1 ≤ en) : p.2 = -1 ∧ p.1 ≤ (znumP t en lo hi p).1 ∧ (znumP t en lo hi p).1 ≤ en := by
  have r3 := zdg_rng (t := t) (en := en) (n := 3) (v := 0) (a := p.1) (by decide) (by decide) h1 h2
  unfold znumP at h ⊢
  by_cases g : p.2 = -1
  · rw [if_pos g] at h ⊢
    by_cases e : (zdg t en 3 0 p.1).2 = p.1
    · rw [if_pos e] at h
      have h : p.1 = -1 := h
      omega
    · rw [if_neg e] at h ⊢
      by_cases b : lo ≤ (zdg t en 3 0 p.1).1 ∧ (zdg t en 3 0 p.1).1 ≤ hi
      · rw [if_pos b]
        exact ⟨g, r3.1, r3.2.1⟩
      · rw [if_neg b] at h
        have h : (zdg t en 3 0 p.1).2 - 1 = -1 := h
        omega
  · rw [if_neg g] at h
    exact absurd h g
theorem zroom_g {n : Int} {v v' : Wv} {wa : Int} (h : (zroom n p v v' wa).1.2 = -1) (h1 : p.2 = -1 → 1 ≤ p.1) : p.2 = -1 ∧ (zroom n p v v' wa).1.1 = p.1 := by
  unfold zroom at h ⊢
  by_cases g : p.2 = -1
  · rw [if_pos g] at h ⊢
    by_cases e : wTicks v + n ≤ 1000
    · rw [if_pos e]
      exact ⟨g, rfl⟩
    · rw [if_neg e] at h
      have h : p.1 - 1 = -1 := h
      have := h1 g
      omega
  · rw [if_neg g] at h
    exact absurd h g
theorem zpart_mono {x : Ws} (hg : x.1.2 = -1) (h1 : 0 ≤ x.1.1) (h2 : x.1.1 ≤ en) (h : (zpart t en x).1.2 = -1) : x.1.1 ≤ (zpart t en x).1.1 := by
  -- a number at the end of a part, from a known place on
  have num : ∀ {lo hi : Int} {q : Ps}, 0 ≤ q.1 → q.1 ≤ en → (znumP t en lo hi q).2 = -1 → 1 ≤ (znumP t en lo hi q).1 := fun {lo hi q} a b z => by
    have m := znumP_mono z a b
    have r3 := zdg_rng (t := t) (en := en) (n := 3) (v := 0) (a := q.1) (by decide) (by decide) a b
    unfold znumP at z ⊢
    rw [if_pos m.1] at z ⊢
    by_cases e : (zdg t en 3 0 q.1).2 = q.1
    · rw [if_pos e] at z
      have z : q.1 = -1 := z
      omega
    · rw [if_neg e] at z ⊢
      by_cases b : lo ≤ (zdg t en 3 0 q.1).1 ∧ (zdg t en 3 0 q.1).1 ≤ hi
      · rw [if_pos b]
        show 1 ≤ (zdg t en 3 0 q.1).2
        omega
      · rw [if_neg b] at z
        have z : (zdg t en 3 0 q.1).2 - 1 = -1 := z
        omega
  unfold zpart at h ⊢
  by_cases e1 : pk t en x.1.1 = 103
  · rw [if_pos e1] at h ⊢
    have hl := pkc_lt e1 (by decide)
    unfold zwg at h ⊢
    -- back along the part
    have back : ∀ {q : Ps}, (znumP t en 1 50 q).2 = -1 → q.2 = -1 := fun {q} z => by
      by_cases g : q.2 = -1
      · exact g
      · rw [show znumP t en 1 50 q = q from if_neg g] at z
        exact z
    have st : ∀ {lo hi c : Int} {q : Ps}, 0 ≤ c → 0 ≤ q.1 → q.1 ≤ en → (zneed t en c (znumP t en lo hi q)).2 = -1 → q.2 = -1 ∧ q.1 ≤ (zneed t en c (znumP t en lo hi q)).1 ∧ (zneed t en c (znumP t en lo hi q)).1 ≤ en := fun {lo hi c q} hc a b z => by
      have m := znumP_mono (zneed_g z) a b
      have y := zneed_at z (by omega) hc
      exact ⟨m.1, by omega, by omega⟩
    have all : (znumP t en 1 50 (gpC t en (x.1.1 + 1, -1))).2 = -1 → x.1.1 + 1 ≤ (gpC t en (x.1.1 + 1, -1)).1 ∧ (gpC t en (x.1.1 + 1, -1)).1 ≤ en := fun z => by
      have z4 : (gpC t en (x.1.1 + 1, -1)).2 = -1 := back z
      have z5 : (gpB t en (x.1.1 + 1, -1)).2 = -1 := by
        have y := zneed_g (show (zneed t en 42 (znumP t en 0 200 (gpB t en (x.1.1 + 1, -1)))).2 = -1 from z4)
        by_cases g : (gpB t en (x.1.1 + 1, -1)).2 = -1
        · exact g
        · rw [show znumP t en 0 200 (gpB t en (x.1.1 + 1, -1)) = gpB t en (x.1.1 + 1, -1) from if_neg g] at y
          exact y
      have z6 : (gpA t en (x.1.1 + 1, -1)).2 = -1 := by
        have y := zneed_g (show (zneed t en 44 (znumP t en 2 40 (gpA t en (x.1.1 + 1, -1)))).2 = -1 from z5)
        by_cases g : (gpA t en (x.1.1 + 1, -1)).2 = -1
        · exact g
        · rw [show znumP t en 2 40 (gpA t en (x.1.1 + 1, -1)) = gpA t en (x.1.1 + 1, -1) from if_neg g] at y
          exact y
      have sA : x.1.1 + 1 ≤ (gpA t en (x.1.1 + 1, -1)).1 ∧ (gpA t en (x.1.1 + 1, -1)).1 ≤ en := (st (q := (x.1.1 + 1, -1)) (by decide) (by dsimp only; omega) (by dsimp only; omega) z6).2
      have sB : (gpA t en (x.1.1 + 1, -1)).1 ≤ (gpB t en (x.1.1 + 1, -1)).1 ∧ (gpB t en (x.1.1 + 1, -1)).1 ≤ en := (st (q := gpA t en (x.1.1 + 1, -1)) (by decide) (by omega) (by omega) z5).2
      have sC : (gpB t en (x.1.1 + 1, -1)).1 ≤ (gpC t en (x.1.1 + 1, -1)).1 ∧ (gpC t en (x.1.1 + 1, -1)).1 ≤ en := (st (q := gpB t en (x.1.1 + 1, -1)) (by decide) (by omega) (by omega) z4).2
      omega
    have z := zroom_g h (fun z => by
      have := all z
      exact num (by omega) (by omega) z)
    have a := all z.1
    have m := znumP_mono z.1 (by omega) a.2
    rw [z.2]
    omega
  rw [if_neg e1] at h ⊢
  by_cases e2 : pk t en x.1.1 = 115
  · rw [if_pos e2] at h ⊢
    have hl := pkc_lt e2 (by decide)
    have z := zroom_g (p := znumP t en 1 99 (x.1.1 + 1, -1)) h (num (by dsimp only; omega) (by dsimp only; omega))
    have m := znumP_mono z.1 (by dsimp only; omega) (by dsimp only; omega)
    have m2 : x.1.1 + 1 ≤ (znumP t en 1 99 (x.1.1 + 1, -1)).1 := m.2.1
    unfold zws
    rw [z.2]
    omega
  rw [if_neg e2] at h ⊢
  by_cases e3 : pk t en x.1.1 = 106
  · rw [if_pos e3] at h ⊢
    have hl := pkc_lt e3 (by decide)
    have hs : x.1.1 + 1 ≤ (zskipP t en 45 (x.1.1 + 1, -1)).1 ∧ (zskipP t en 45 (x.1.1 + 1, -1)).1 ≤ en := by
      by_cases y : (x.1.1 + 1, (-1 : Int)).2 = -1 ∧ pk t en (x.1.1 + 1, (-1 : Int)).1 = 45
      · rw [(zskipP_y y.1 y.2).2]
        have := pkc_lt y.2 (by decide)
        have : 0 ≤ x.1.1 + 1 ∧ x.1.1 + 1 < en := this
        dsimp only
        omega
      · rw [(zskipP_n y).2]
        dsimp only
        omega
    have z := zroom_g (p := znumP t en 0 200 (zskipP t en 45 (x.1.1 + 1, -1))) h (num (by omega) (by omega))
    have m := znumP_mono z.1 (by omega) (by omega)
    unfold zwj
    rw [z.2]
    omega
  rw [if_neg e3] at h ⊢
  by_cases e4 : pk t en x.1.1 = 119
  · rw [if_pos e4] at h ⊢
    have hl := pkc_lt e4 (by decide)
    have m := znumP_mono (p := (x.1.1 + 1, -1)) h (by dsimp only; omega) (by dsimp only; omega)
    have m2 : x.1.1 + 1 ≤ (znumP t en 0 50 (x.1.1 + 1, -1)).1 := m.2.1
    show x.1.1 ≤ (znumP t en 0 50 (x.1.1 + 1, -1)).1
    omega
  rw [if_neg e4] at h ⊢
  exact Int.le_refl _
end ZMN
