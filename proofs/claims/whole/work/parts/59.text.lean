/-! ===== THE TEXT, read: functions of its signs; the class's Text ===== -/
def pk (t : Int → Int) (en a : Int) : Int := if 0 ≤ a ∧ a < en then t a else -1
/-- where it is read, and where it is wrong (-1: nowhere so far) -/
abbrev Ps : Type := Int × Int
def zskip (t : Int → Int) (en c : Int) (p : Ps) : Bool := decide (p.2 = -1) && decide (pk t en p.1 = c)
def zskipP (t : Int → Int) (en c : Int) (p : Ps) : Ps := if zskip t en c p = true then (p.1 + 1, p.2) else p
def zneed (t : Int → Int) (en c : Int) (p : Ps) : Ps := if p.2 = -1 then (if pk t en p.1 = c then (p.1 + 1, -1) else (p.1, p.1)) else p
def zdg (t : Int → Int) (en : Int) : Nat → Int → Int → Int × Int
  | 0, v, a => (v, a)
  | n + 1, v, a => if 48 ≤ pk t en a ∧ pk t en a ≤ 57 then zdg t en n (10 * v + pk t en a - 48) (a + 1) else (v, a)
def znumV (t : Int → Int) (en lo hi : Int) (p : Ps) : Int := if p.2 = -1 ∧ (zdg t en 3 0 p.1).2 ≠ p.1 ∧ (lo ≤ (zdg t en 3 0 p.1).1 ∧ (zdg t en 3 0 p.1).1 ≤ hi) then (zdg t en 3 0 p.1).1 else 0
def znumP (t : Int → Int) (en lo hi : Int) (p : Ps) : Ps :=
  if p.2 = -1 then (if (zdg t en 3 0 p.1).2 = p.1 then (p.1, p.1) else if lo ≤ (zdg t en 3 0 p.1).1 ∧ (zdg t en 3 0 p.1).1 ≤ hi then ((zdg t en 3 0 p.1).2, -1) else ((zdg t en 3 0 p.1).2, (zdg t en 3 0 p.1).2 - 1)) else p
theorem zdg_rng {t : Int → Int} {en : Int} : ∀ {n : Nat} {v a : Int}, n ≤ 3 → 0 ≤ v → 0 ≤ a → a ≤ en → a ≤ (zdg t en n v a).2 ∧ (zdg t en n v a).2 ≤ en ∧ (zdg t en n v a).2 ≤ a + n ∧ 0 ≤ (zdg t en n v a).1
  | 0, v, a, _, h, _, h2 => ⟨Int.le_refl _, h2, by show a ≤ a + ((0 : Nat) : Int); omega, h⟩
  | n + 1, v, a, hn, hv, h0, h1 => by
    have e : zdg t en (n + 1) v a = if 48 ≤ pk t en a ∧ pk t en a ≤ 57 then zdg t en n (10 * v + pk t en a - 48) (a + 1) else (v, a) := rfl
    rw [e]
    by_cases q : 48 ≤ pk t en a ∧ pk t en a ≤ 57
    · rw [if_pos q]
      have ha : a < en := by
        by_cases z : 0 ≤ a ∧ a < en
        · exact z.2
        · have : pk t en a = -1 := if_neg z
          omega
      obtain ⟨i1, i2, i3, i4⟩ := zdg_rng (t := t) (en := en) (n := n) (v := 10 * v + pk t en a - 48) (a := a + 1) (by omega) (by omega) (by omega) (by omega)
      exact ⟨by omega, i2, by omega, i4⟩
    · rw [if_neg q]
      exact ⟨Int.le_refl _, h1, by show a ≤ a + ((n + 1 : Nat) : Int); omega, hv⟩
theorem zdg_val {t : Int → Int} {en : Int} : ∀ {n : Nat} {v a B : Int}, n ≤ 3 → 0 ≤ v → v ≤ B → (zdg t en n v a).1 ≤ 10 ^ n * (B + 1) - 1
  | 0, v, a, B, _, _, h => by
    show v ≤ 1 * (B + 1) - 1
    omega
  | n + 1, v, a, B, hn, h0, h => by
    have e : zdg t en (n + 1) v a = if 48 ≤ pk t en a ∧ pk t en a ≤ 57 then zdg t en n (10 * v + pk t en a - 48) (a + 1) else (v, a) := rfl
    rw [e]
    by_cases q : 48 ≤ pk t en a ∧ pk t en a ≤ 57
    · rw [if_pos q]
      have := zdg_val (t := t) (en := en) (n := n) (v := 10 * v + pk t en a - 48) (a := a + 1) (B := 10 * B + 9) (by omega) (by omega) (by omega)
      have e2 : (10 : Int) ^ (n + 1) * (B + 1) = 10 ^ n * (10 * B + 9 + 1) := by
        rw [Int.pow_succ, Int.mul_assoc]
        congr 1
        omega
      rw [e2]
      exact this
    · rw [if_neg q]
      show v ≤ _
      have hp : (1 : Int) ≤ 10 ^ (n + 1) := by
        have hn' : n = 0 ∨ n = 1 ∨ n = 2 := by omega
        rcases hn' with z | z | z <;> subst z <;> decide
      have := Int.mul_le_mul_of_nonneg_right hp (show 0 ≤ B + 1 by omega)
      omega
theorem zdg_999 {t : Int → Int} {en a : Int} : (zdg t en 3 0 a).1 ≤ 999 := by
  have := zdg_val (t := t) (en := en) (n := 3) (v := 0) (a := a) (B := 0) (by decide) (by decide) (by decide)
  have e : (10 : Int) ^ 3 * (0 + 1) - 1 = 999 := by decide
  rw [e] at this
  exact this
/-- the class's Text holds such a reading -/
def TxR (D : DD) (t : Int → Int) (en : Int) (p : Ps) : Prop := D 17 3 = en ∧ D 17 4 = p.2 ∧ (0 ≤ D 17 2 ∧ D 17 2 ≤ en) ∧ (p.2 = -1 → D 17 2 = p.1) ∧ -1 ≤ p.2 ∧ (∀ k, 0 ≤ k → k < en → D 18 k = t k) ∧ en ≤ 80
def tF (q : Nat) (j : Int) : Prop := q = 17 ∧ (j = 2 ∨ j = 4)
section TXT
variable {d n1 : Nat} {W : Nat → Nat} {D : DD} {t : Int → Int} {en : Int} {p : Ps}
theorem TxR.pkE (h : TxR D t en p) : pk t en (D 17 2) = if D 17 2 < en then D 18 (D 17 2) else -1 := by
  obtain ⟨h1, h2, h3, h4, h5, h6, h7⟩ := h
  unfold pk
  by_cases e : D 17 2 < en
  · rw [if_pos ⟨h3.1, e⟩, if_pos e, h6 _ h3.1 e]
  · rw [if_neg (fun z => e z.2), if_neg e]
theorem C_next (h : TxR D t en p) : Cl d 0 0 mX6_next [vr 17] (D, rho n1 W) (KI (fun x m => x = pk t en (D 17 2) ∧ m = (D, rho n1 W))) := by
  have hp := h.pkE
  obtain ⟨h1, h2, h3, h4, h5, h6, h7⟩ := h
  refine Cl_of mb_X6_next (Nat.le_of_ble_eq_true rfl) (sg_X6_next_0 ⟨rfl, fun c => ⟨_, rfl, ?_, rfl⟩, fun c => ⟨kb (Nat.le_of_ble_eq_true rfl) (Nat.le_of_ble_eq_true rfl), fun c2 => ⟨_, rfl, ?_, rfl⟩, fun c2 => ⟨rfl, bnd (N := 80) rfl h3.1 ?_, _, rfl, ?_, rfl⟩⟩⟩)
  · change D 17 3 ≤ D 17 2 at c
    rw [hp, if_neg (by omega)]
  · change ¬ D 17 3 ≤ D 17 2 at c
    have c2 : ((80 : Nat) : Int) ≤ D 17 2 := c2
    omega
  · change ¬ D 17 3 ≤ D 17 2 at c
    show D 17 2 < 80
    omega
  · change ¬ D 17 3 ≤ D 17 2 at c
    rw [hp, if_pos (by omega)]
    rfl
theorem C_skip {c : Int} (hc : 0 ≤ c) (h : TxR D t en p) : Cl (d + 1) 0 0 mX6_skip [vr 17, vi c] (D, rho n1 W) (KI (fun x m => ∃ D', m = (D', rho n1 W) ∧ Fr tF D D' ∧ TxR D' t en (zskipP t en c p) ∧ (p.2 = -1 → x = if zskip t en c p = true then 1 else 0) ∧ (x = 0 ∨ x = 1))) := by
  have hp := h.pkE
  have h' := h
  obtain ⟨h1, h2, h3, h4, h5, h6, h7⟩ := h
  refine Cl_of mb_X6_skip (Nat.le_of_ble_eq_true rfl) (sg_X6_skip_0 ⟨rfl, cP (C_next h') ⟨fun e => ⟨rfl, fun m2 e2 => ?_⟩, fun e => ⟨_, rfl, D, rfl, Fr.refl, ?_, fun hg => ?_, Or.inl rfl⟩⟩⟩)
  · have hlt : D 17 2 < en := by
      by_cases z : D 17 2 < en
      · exact z
      · rw [hp, if_neg z] at e
        omega
    have w1 : w32 (D 17 2 + 1) = D 17 2 + 1 := w32_id (by omega) (by omega)
    have e2 : m2 = (wr D 17 2 (D 17 2 + 1), rho n1 W) := by
      rw [e2, ← w1]
      rfl
    refine ⟨_, rfl, _, e2, Fr.refl.wr ⟨rfl, Or.inl rfl⟩, ?_, fun hg => ?_, Or.inr rfl⟩
    · unfold zskipP
      by_cases hg : p.2 = -1
      · have hz : zskip t en c p = true := by
          unfold zskip
          rw [decide_eq_true hg, ← h4 hg, decide_eq_true e]
          rfl
        rw [if_pos hz]
        refine ⟨by rw [wr_j (by decide)]; exact h1, by rw [wr_j (by decide)]; exact h2, by rw [wr_at]; omega, fun _ => by rw [wr_at, h4 hg], h5, fun k k0 k1 => by rw [wr_o (by decide)]; exact h6 k k0 k1, h7⟩
      · have hz : ¬ zskip t en c p = true := by
          unfold zskip
          rw [decide_eq_false hg]
          exact fun z => by cases z
        rw [if_neg hz]
        exact ⟨by rw [wr_j (by decide)]; exact h1, by rw [wr_j (by decide)]; exact h2, by rw [wr_at]; omega, fun z => absurd z hg, h5, fun k k0 k1 => by rw [wr_o (by decide)]; exact h6 k k0 k1, h7⟩
    · have hz : zskip t en c p = true := by
        unfold zskip
        rw [decide_eq_true hg, ← h4 hg, decide_eq_true e]
        rfl
      rw [if_pos hz]
  · have hz : ¬ zskip t en c p = true := by
      unfold zskip
      by_cases hg : p.2 = -1
      · rw [decide_eq_true hg, ← h4 hg, decide_eq_false e]
        exact fun z => by cases z
      · rw [decide_eq_false hg]
        exact fun z => by cases z
    unfold zskipP
    rw [if_neg hz]
    exact h'
  · have hz : ¬ zskip t en c p = true := by
      unfold zskip
      rw [decide_eq_true hg, ← h4 hg, decide_eq_false e]
      exact fun z => by cases z
    rw [if_neg hz]
theorem C_isAtDigit (h : TxR D t en p) : Cl (d + 1) 0 0 mX6_isAtDigit [vr 17] (D, rho n1 W) (KI (fun x m => x = bi (48 ≤ pk t en (D 17 2) ∧ pk t en (D 17 2) ≤ 57) ∧ m = (D, rho n1 W))) :=
  Cl_of mb_X6_isAtDigit (Nat.le_of_ble_eq_true rfl) (sg_X6_isAtDigit_0 ⟨rfl, cP (C_next h) (cP C_isIn ⟨bi_or, _, rfl, rfl, rfl⟩)⟩)
theorem C_fail {pl : Int} (h0 : 0 ≤ pl) (h : TxR D t en p) (hpl : p.2 = -1 → True) : Cl d 0 0 mX6_fail [vr 17, vi pl] (D, rho n1 W) (KV (fun m => ∃ D', m = (D', rho n1 W) ∧ Fr tF D D' ∧ D' 17 2 = D 17 2 ∧ TxR D' t en (p.1, if p.2 = -1 then pl else p.2))) := by
  obtain ⟨h1, h2, h3, h4, h5, h6, h7⟩ := h
  refine Cl_of mb_X6_fail (Nat.le_of_ble_eq_true rfl) (sg_X6_fail_0 ⟨rfl, fun c => ⟨rfl, D, rfl, Fr.refl, rfl, ?_⟩, fun c m1 e1 => ⟨rfl, wr D 17 4 pl, e1, Fr.refl.wr ⟨rfl, Or.inr rfl⟩, wr_j (by decide), ?_⟩⟩)
  · change ¬ D 17 4 = -1 at c
    rw [if_neg (by omega)]
    exact ⟨h1, h2, h3, h4, h5, h6, h7⟩
  · change D 17 4 = -1 at c
    rw [if_pos (by omega)]
    exact ⟨by rw [wr_j (by decide)]; exact h1, wr_at, by rw [wr_j (by decide)]; exact h3, fun z => by rw [wr_j (by decide)]; exact h4 (by omega), by show -1 ≤ pl; omega, fun k k0 k1 => by rw [wr_o (by decide)]; exact h6 k k0 k1, h7⟩
theorem C_failHere (h : TxR D t en p) : Cl (d + 1) 0 0 mX6_failHere [vr 17] (D, rho n1 W) (KV (fun m => ∃ D', m = (D', rho n1 W) ∧ Fr tF D D' ∧ TxR D' t en (p.1, if p.2 = -1 then p.1 else p.2))) := by
  refine Cl_of mb_X6_failHere (Nat.le_of_ble_eq_true rfl) (sg_X6_failHere_0 ⟨rfl, cV (C_fail (pl := D 17 2) h.2.2.1.1 h (fun _ => trivial)) ?_⟩)
  rintro m ⟨G, rfl, f1, -, f2⟩
  refine ⟨rfl, G, rfl, f1, ?_⟩
  by_cases q : p.2 = -1
  · rw [if_pos q] at f2 ⊢
    rw [h.2.2.2.1 q] at f2
    exact f2
  · rw [if_neg q] at f2 ⊢
    exact f2
theorem C_failAtLastDigit (h : TxR D t en p) (hp : 1 ≤ D 17 2) : Cl (d + 1) 0 0 mX6_failAtLastDigit [vr 17] (D, rho n1 W) (KV (fun m => ∃ D', m = (D', rho n1 W) ∧ Fr tF D D' ∧ TxR D' t en (p.1, if p.2 = -1 then p.1 - 1 else p.2))) := by
  have h3 := h.2.2.1
  have h7 := h.2.2.2.2.2.2
  have w1 : w32 (D 17 2 - 1) = D 17 2 - 1 := w32_id (by omega) (by omega)
  refine Cl_of mb_X6_failAtLastDigit (Nat.le_of_ble_eq_true rfl) (sg_X6_failAtLastDigit_0 ⟨rfl, ?_⟩)
  rw [show mD (D, rho n1 W) 17 2 = D 17 2 from rfl, w1]
  refine cV (C_fail (pl := D 17 2 - 1) (by omega) h (fun _ => trivial)) ?_
  rintro m ⟨G, rfl, f1, -, f2⟩
  refine ⟨rfl, G, rfl, f1, ?_⟩
  by_cases q : p.2 = -1
  · rw [if_pos q] at f2 ⊢
    rw [h.2.2.2.1 q] at f2
    exact f2
  · rw [if_neg q] at f2 ⊢
    exact f2
theorem C_need {c : Int} (hc : 0 ≤ c) (h : TxR D t en p) : Cl (d + 2) 0 0 mX6_need [vr 17, vi c] (D, rho n1 W) (KV (fun m => ∃ D', m = (D', rho n1 W) ∧ Fr tF D D' ∧ TxR D' t en (zneed t en c p))) := by
  refine Cl_of mb_X6_need (Nat.le_of_ble_eq_true rfl) (sg_X6_need_0 ⟨rfl, cI (C_skip hc h) ?_⟩)
  rintro x m ⟨G, rfl, f1, f2, f3, f4⟩
  by_cases q : p.2 = -1
  · have f3 := f3 q
    have hzp : zskip t en c p = decide (pk t en p.1 = c) := by
      unfold zskip
      rw [decide_eq_true q]
      rfl
    unfold zskipP at f2
    by_cases e : pk t en p.1 = c
    · rw [hzp, decide_eq_true e, if_pos rfl] at f2 f3
      refine ⟨fun _ => ⟨rfl, G, rfl, f1, ?_⟩, fun c0 => by omega⟩
      unfold zneed
      rw [if_pos q, if_pos e]
      rw [q] at f2
      exact f2
    · rw [hzp, decide_eq_false e] at f2 f3
      rw [if_neg (fun z => by cases z)] at f2 f3
      refine ⟨fun c0 => absurd f3 c0, fun _ => ⟨rfl, cV (C_failHere f2) ?_⟩⟩
      rintro m ⟨G2, rfl, g1, g2⟩
      rw [if_pos q] at g2
      refine ⟨rfl, G2, rfl, f1.trans g1, ?_⟩
      unfold zneed
      rw [if_pos q, if_neg e]
      exact g2
  · have hz : ¬ zskip t en c p = true := by
      unfold zskip
      rw [decide_eq_false q]
      exact fun z => by cases z
    unfold zskipP at f2
    rw [if_neg hz] at f2
    have hzn : zneed t en c p = p := if_neg q
    rw [hzn]
    refine ⟨fun _ => ⟨rfl, G, rfl, f1, f2⟩, fun _ => ⟨rfl, cV (C_failHere f2) ?_⟩⟩
    rintro m ⟨G2, rfl, g1, g2⟩
    rw [if_neg q] at g2
    exact ⟨rfl, G2, rfl, f1.trans g1, g2⟩
theorem C_number {lo hi : Int} (h : TxR D t en p) : Cl (d + 3) 0 0 mX6_number [vr 17, vi lo, vi hi] (D, rho n1 W) (KI (fun x m => ∃ D', m = (D', rho n1 W) ∧ Fr tF D D' ∧ TxR D' t en (znumP t en lo hi p) ∧ ((znumP t en lo hi p).2 = -1 → x = znumV t en lo hi p ∧ p.2 = -1 ∧ 1 ≤ D' 17 2) ∧ (0 ≤ x ∧ x ≤ 999))) := by
  have h' := h
  obtain ⟨h1, h2, h3, h4, h5, h6, h7⟩ := h
  refine Cl_of mb_X6_number (Nat.le_of_ble_eq_true rfl) (sg_X6_number_0 ?_)
  have r3 := zdg_rng (t := t) (en := en) (n := 3) (v := 0) (a := D 17 2) (by decide) (by decide) h3.1 h3.2
  have r9 := zdg_999 (t := t) (en := en) (a := D 17 2)
  -- the end
  have fin : ∀ (E : DD) (v g : Int), Fr (fun q j => q = 17 ∧ j = 2) D E → E 17 2 = (zdg t en 3 0 (D 17 2)).2 → v = (zdg t en 3 0 (D 17 2)).1 → (g = 0 ↔ (zdg t en 3 0 (D 17 2)).2 = D 17 2) → Wp (d + 3) 0 0 mX6_number 47 [some (vr 17), some (vi lo), some (vi hi), some (vi v), some (vi g)] [] (E, rho n1 W) (KI (fun x m => ∃ D', m = (D', rho n1 W) ∧ Fr tF D D' ∧ TxR D' t en (znumP t en lo hi p) ∧ ((znumP t en lo hi p).2 = -1 → x = znumV t en lo hi p ∧ p.2 = -1 ∧ 1 ≤ D' 17 2) ∧ (0 ≤ x ∧ x ≤ 999))) := by
    intro E v g hE e2 hv hg
    have hEt : Fr tF D E := hE.mono (fun q j h => ⟨h.1, Or.inl h.2⟩)
    have hR : ∀ p' : Ps, p'.2 = p.2 → (p.2 = -1 → p'.1 = (zdg t en 3 0 (D 17 2)).2) → TxR E t en p' := fun p' q1 q2 => ⟨by rw [hE 17 3 (by omega)]; exact h1, by rw [hE 17 4 (by omega), q1]; exact h2, by rw [e2]; exact ⟨by omega, r3.2.1⟩, fun z => by rw [e2, q2 (by rw [← q1]; exact z)], by rw [q1]; exact h5, fun k k0 k1 => by rw [hE 18 k (by omega)]; exact h6 k k0 k1, h7⟩
    by_cases hgood : p.2 = -1
    · have ea : D 17 2 = p.1 := h4 hgood
      rw [ea] at hv e2 hg r3 r9 hR
      refine sg_X6_number_47 ⟨fun c => cB C_isIn (fun hx => yN ⟨_, rfl, E, rfl, hEt, ?_, fun _ => ⟨?_, hgood, ?_⟩, by omega⟩) (fun hx => nN ⟨rfl, cV (C_failAtLastDigit (D := E) (p := ((zdg t en 3 0 p.1).2, p.2)) (hR _ rfl (fun _ => rfl)) ?_) ?_⟩), fun c => ⟨rfl, cV (C_failHere (D := E) (p := ((zdg t en 3 0 p.1).2, p.2)) (hR _ rfl (fun _ => rfl))) ?_⟩⟩
      · have : znumP t en lo hi p = ((zdg t en 3 0 p.1).2, -1) := by
          unfold znumP
          rw [if_pos hgood, if_neg (fun z => c (hg.mpr z)), if_pos (by rw [← hv]; exact hx)]
        rw [this]
        exact hR _ hgood.symm (fun _ => rfl)
      · unfold znumV
        rw [if_pos ⟨hgood, fun z => c (hg.mpr z), by rw [← hv]; exact hx⟩]
        exact hv
      · have : (zdg t en 3 0 p.1).2 ≠ p.1 := fun z => c (hg.mpr z)
        omega
      · have : (zdg t en 3 0 p.1).2 ≠ p.1 := fun z => c (hg.mpr z)
        omega
      · rintro m ⟨G, rfl, g1, g2⟩
        rw [if_pos hgood] at g2
        have ez : znumP t en lo hi p = ((zdg t en 3 0 p.1).2, (zdg t en 3 0 p.1).2 - 1) := by
          unfold znumP
          rw [if_pos hgood, if_neg (fun z => c (hg.mpr z)), if_neg (by rw [← hv]; exact hx)]
        have hne : (zdg t en 3 0 p.1).2 ≠ p.1 := fun z => c (hg.mpr z)
        refine ⟨_, rfl, G, rfl, hEt.trans g1, ?_, fun z => ?_, by omega⟩
        · rw [ez]
          exact g2
        · rw [ez] at z
          have z : (zdg t en 3 0 p.1).2 - 1 = -1 := z
          omega
      · rintro m ⟨G, rfl, g1, g2⟩
        rw [if_pos hgood] at g2
        have e0 : (zdg t en 3 0 p.1).2 = p.1 := hg.mp c
        have ez : znumP t en lo hi p = (p.1, p.1) := by
          unfold znumP
          rw [if_pos hgood, if_pos e0]
        refine ⟨_, rfl, G, rfl, hEt.trans g1, ?_, fun z => ?_, by omega⟩
        · rw [ez]
          rw [e0] at g2
          exact g2
        · rw [ez] at z
          have z : p.1 = -1 := z
          omega
    · have ez : znumP t en lo hi p = p := if_neg hgood
      rw [ez]
      have hRE : TxR E t en p := hR p rfl (fun z => absurd z hgood)
      refine sg_X6_number_47 ⟨fun c => cB C_isIn (fun hx => yN ⟨_, rfl, E, rfl, hEt, hRE, fun z => absurd z hgood, by omega⟩) (fun hx => nN ⟨rfl, cV (C_failAtLastDigit (D := E) hRE ?_) ?_⟩), fun c => ⟨rfl, cV (C_failHere (D := E) hRE) ?_⟩⟩
      · have : (zdg t en 3 0 (D 17 2)).2 ≠ D 17 2 := fun z => c (hg.mpr z)
        omega
      · rintro m ⟨G, rfl, g1, g2⟩
        rw [if_neg hgood] at g2
        exact ⟨_, rfl, G, rfl, hEt.trans g1, g2, fun z => absurd z hgood, by omega⟩
      · rintro m ⟨G, rfl, g1, g2⟩
        rw [if_neg hgood] at g2
        exact ⟨_, rfl, G, rfl, hEt.trans g1, g2, fun z => absurd z hgood, by omega⟩
  -- value, digits read
  refine Wp.loop (σ := Int × Int) (fun z => [some (vr 17), some (vi lo), some (vi hi), some (vi z.1), some (vi z.2)])
    (fun z μ => ∃ E : DD, μ = (E, rho n1 W) ∧ Fr (fun q j => q = 17 ∧ j = 2) D E ∧ 0 ≤ z.2 ∧ z.2 ≤ 3 ∧ E 17 2 = D 17 2 + z.2 ∧ E 17 2 ≤ en ∧ (0 ≤ z.1 ∧ z.1 ≤ 999) ∧ zdg t en (3 - z.2).toNat z.1 (E 17 2) = zdg t en 3 0 (D 17 2))
    (fun z => (3 - z.2).toNat) ?_ (0, 0) _ ⟨D, rfl, Fr.refl, by decide, by decide, by dsimp only; omega, h3.2, by decide, rfl⟩
  rintro ⟨v, g⟩ μ ⟨E, rfl, hE, g0, g1, ea, ea2, hv, hz⟩ ih
  dsimp only at g0 g1 ea hv hz ih ⊢
  have hRE : TxR E t en (E 17 2, p.2) := ⟨by rw [hE 17 3 (by omega)]; exact h1, by rw [hE 17 4 (by omega)]; exact h2, ⟨by omega, ea2⟩, fun _ => rfl, h5, fun k k0 k1 => by rw [hE 18 k (by omega)]; exact h6 k k0 k1, h7⟩
  refine sg_X6_number_5 ⟨fun c => fin E v g hE ?_ ?_ ?_, fun c => ⟨rfl, cB (C_isAtDigit hRE) (fun hx => yE ⟨rfl, cP (C_next hRE) fun v1 e1 => ⟨rfl, fun m3 e3 v2 e2 => ?_⟩⟩) (fun hx => nE (fin E v g hE ?_ ?_ ?_))⟩⟩
  · rw [← hz, show (3 - g).toNat = 0 by omega]
    rfl
  · rw [← hz, show (3 - g).toNat = 0 by omega]
    rfl
  · rw [← hz, show (3 - g).toNat = 0 by omega]
    show g = 0 ↔ E 17 2 = D 17 2
    omega
  · have hd : zdg t en (3 - g).toNat v (E 17 2) = zdg t en (3 - (g + 1)).toNat (10 * v + pk t en (E 17 2) - 48) (E 17 2 + 1) := by
      rw [show (3 - g).toNat = (3 - (g + 1)).toNat + 1 by omega]
      exact if_pos hx
    have hlt : E 17 2 < en := by
      by_cases z : 0 ≤ E 17 2 ∧ E 17 2 < en
      · exact z.2
      · have : pk t en (E 17 2) = -1 := if_neg z
        omega
    have hpk : pk t en (E 17 2) = t (E 17 2) := if_pos ⟨by omega, hlt⟩
    have ev : v1 = 10 * v + pk t en (E 17 2) - 48 := by
      rw [e1, w32_id (x := v * 10) (by omega) (by omega), w32_id (x := v * 10 + _) (by omega) (by omega), w32_id (by omega) (by omega)]
      omega
    rw [w32_id (by omega) (by omega)] at e2
    subst e2
    have w1 : w32 (E 17 2 + 1) = E 17 2 + 1 := w32_id (by omega) (by omega)
    have e3 : m3 = (wr E 17 2 (E 17 2 + 1), rho n1 W) := by
      rw [e3, ← w1]
      rfl
    subst e3
    have hb : 0 ≤ v1 ∧ v1 ≤ 999 := by
      have q1 := zdg_rng (t := t) (en := en) (n := (3 - (g + 1)).toNat) (v := v1) (a := E 17 2 + 1) (by omega) (by omega) (by omega) (by omega)
      rw [hd, ← ev] at hz
      have mono : ∀ (n : Nat) (v a : Int), 0 ≤ v → v ≤ (zdg t en n v a).1 := by
        intro n
        induction n with
        | zero => intro v a _; exact Int.le_refl _
        | succ n ihn =>
          intro v a hv0
          have e : zdg t en (n + 1) v a = if 48 ≤ pk t en a ∧ pk t en a ≤ 57 then zdg t en n (10 * v + pk t en a - 48) (a + 1) else (v, a) := rfl
          rw [e]
          by_cases q : 48 ≤ pk t en a ∧ pk t en a ≤ 57
          · rw [if_pos q]
            have := ihn (10 * v + pk t en a - 48) (a + 1) (by omega)
            omega
          · rw [if_neg q]
            exact Int.le_refl _
      have := mono (3 - (g + 1)).toNat v1 (E 17 2 + 1) (by omega)
      rw [hz] at this
      omega
    refine ih (v1, g + 1) _ ⟨_, rfl, hE.wr ⟨rfl, rfl⟩, by dsimp only; omega, by dsimp only; omega, by rw [wr_at]; dsimp only; omega, by rw [wr_at]; omega, hb, ?_⟩ (by dsimp only; omega)
    dsimp only
    rw [wr_at, ← hz, hd, ev]
  all_goals
    have hd : zdg t en (3 - g).toNat v (E 17 2) = (v, E 17 2) := by
      rw [show (3 - g).toNat = (3 - (g + 1)).toNat + 1 by omega]
      exact if_neg hx
    rw [← hz, hd]
  show g = 0 ↔ E 17 2 = D 17 2
  omega
theorem C_begin {most : Int} (h0 : 0 ≤ D 17 1) (h1 : D 17 1 ≤ 80) (hm : 0 ≤ most) (ht : ∀ k, 0 ≤ k → k < D 17 1 → D 18 k = t k) : Cl (d + 1) 0 0 mX6_begin [vr 17, vi most] (D, rho n1 W) (KI (fun x m => ∃ D', m = (D', rho n1 W) ∧ Fr (fun q j => q = 17 ∧ (j = 2 ∨ j = 3 ∨ j = 4)) D D' ∧ TxR D' t (min (D 17 1) most) (0, -1) ∧ x = bi (0 < min (D 17 1) most))) := by
  refine Cl_of mb_X6_begin (Nat.le_of_ble_eq_true rfl) (sg_X6_begin_0 ⟨rfl, fun m1 e1 => ?_⟩)
  have e1 : m1 = (wr D 17 2 0, rho n1 W) := e1
  subst e1
  refine cP C_min ⟨rfl, fun m3 e3 m4 e4 => ?_⟩
  have e4 : m4 = (wr (wr (wr D 17 2 0) 17 3 (min (D 17 1) most)) 17 4 (-1), rho n1 W) := by rw [e4, e3]; rfl
  subst e4
  have hF : Fr (fun q j => q = 17 ∧ (j = 2 ∨ j = 3 ∨ j = 4)) D (wr (wr (wr D 17 2 0) 17 3 (min (D 17 1) most)) 17 4 (-1)) := ((Fr.refl.wr ⟨rfl, Or.inl rfl⟩).wr ⟨rfl, Or.inr (Or.inl rfl)⟩).wr ⟨rfl, Or.inr (Or.inr rfl)⟩
  have k2 : wr (wr (wr D 17 2 0) 17 3 (min (D 17 1) most)) 17 4 (-1) 17 2 = 0 := by rw [wr_j (by decide), wr_j (by decide), wr_at]
  have k3 : wr (wr (wr D 17 2 0) 17 3 (min (D 17 1) most)) 17 4 (-1) 17 3 = min (D 17 1) most := by rw [wr_j (by decide), wr_at]
  have hR : TxR (wr (wr (wr D 17 2 0) 17 3 (min (D 17 1) most)) 17 4 (-1)) t (min (D 17 1) most) (0, -1) := ⟨k3, wr_at, by rw [k2]; exact ⟨Int.le_refl _, by omega⟩, fun _ => k2, by show (-1 : Int) ≤ -1; decide, fun k a b => by rw [hF 18 k (by omega)]; exact ht k a (by omega), by omega⟩
  refine ⟨fun c => ⟨_, rfl, _, rfl, hF, hR, (bi_0 ?_).symm⟩, fun c => ⟨_, rfl, _, rfl, hF, hR, (bi_1 ?_).symm⟩⟩
  · have c : wr (wr (wr D 17 2 0) 17 3 (min (D 17 1) most)) 17 4 (-1) 17 3 ≤ 0 := c
    rw [k3] at c
    omega
  · have c : ¬ wr (wr (wr D 17 2 0) 17 3 (min (D 17 1) most)) 17 4 (-1) 17 3 ≤ 0 := c
    rw [k3] at c
    omega
theorem C_isGood (h : TxR D t en p) : Cl d 0 0 mX6_isGood [vr 17] (D, rho n1 W) (KI (fun x m => x = bi (p.2 = -1) ∧ m = (D, rho n1 W))) := by
  refine Cl_of mb_X6_isGood (Nat.le_of_ble_eq_true rfl) (sg_X6_isGood_0 ⟨rfl, fun c => ⟨_, rfl, (bi_0 ?_).symm, rfl⟩, fun c => ⟨_, rfl, (bi_1 ?_).symm, rfl⟩⟩)
  · change ¬ D 17 4 = -1 at c
    rw [← h.2.1]
    exact c
  · change D 17 4 = -1 at c
    rw [← h.2.1]
    exact c
/-- where it is wrong, when all is read -/
def zfin (len en : Int) (p : Ps) : Int := if p.2 = -1 then (if p.1 < en ∨ en < len then p.1 else -1) else p.2
theorem C_finish (h : TxR D t en p) : Cl (d + 1) 0 0 mX6_finish [vr 17] (D, rho n1 W) (KI (fun x m => ∃ D', m = (D', rho n1 W) ∧ Fr (fun q j => q = 17) D D' ∧ D' 17 1 = 0 ∧ x = zfin (D 17 1) en p)) := by
  have f30 : ∀ (E : DD), Fr (fun q j => q = 17) D E → E 17 4 = zfin (D 17 1) en p → Wp (d + 1) 0 0 mX6_finish 30 [some (vr 17)] [] (E, rho n1 W) (KI (fun x m => ∃ D', m = (D', rho n1 W) ∧ Fr (fun q j => q = 17) D D' ∧ D' 17 1 = 0 ∧ x = zfin (D 17 1) en p)) := fun E hE e4 =>
    sg_X6_finish_30 ⟨rfl, fun m1 e1 => by
      have e1 : m1 = (wr E 17 1 0, rho n1 W) := e1
      subst e1
      exact ⟨_, rfl, _, rfl, hE.wr rfl, wr_at, by show wr E 17 1 0 17 4 = _; rw [wr_j (by decide)]; exact e4⟩⟩
  have f22 : (D 17 2 < en ∨ en < D 17 1) → Wp (d + 1) 0 0 mX6_finish 22 [some (vr 17)] [] (D, rho n1 W) (KI (fun x m => ∃ D', m = (D', rho n1 W) ∧ Fr (fun q j => q = 17) D D' ∧ D' 17 1 = 0 ∧ x = zfin (D 17 1) en p)) := fun hc => by
    refine sg_X6_finish_22 ⟨rfl, cV (C_fail (pl := D 17 2) h.2.2.1.1 h (fun _ => trivial)) ?_⟩
    rintro m ⟨G, rfl, g1, -, g2⟩
    refine f30 G (g1.mono (fun q j z => z.1)) ?_
    rw [g2.2.1]
    unfold zfin
    by_cases q : p.2 = -1
    · have ea := h.2.2.2.1 q
      show (if p.2 = -1 then D 17 2 else p.2) = _
      rw [if_pos q, if_pos q, if_pos (by rw [← ea]; exact hc), ea]
    · show (if p.2 = -1 then D 17 2 else p.2) = _
      rw [if_neg q, if_neg q]
  have h1 := h.1
  refine Cl_of mb_X6_finish (Nat.le_of_ble_eq_true rfl) (sg_X6_finish_0 ⟨rfl, fun c => f22 (Or.inl ?_), fun c => ⟨fun c2 => f30 D Fr.refl ?_, fun c2 => f22 (Or.inr ?_)⟩⟩)
  · change D 17 2 < D 17 3 at c
    omega
  · change ¬ D 17 2 < D 17 3 at c
    change D 17 1 ≤ D 17 3 at c2
    rw [h.2.1]
    unfold zfin
    by_cases q : p.2 = -1
    · have ea := h.2.2.2.1 q
      rw [if_pos q, if_neg (by omega), q]
    · rw [if_neg q]
  · change ¬ D 17 1 ≤ D 17 3 at c2
    omega
end TXT
