/-! ===== a LAW, read by the class ===== -/
def LwR (D : DD) (l : Nat) (t : Int → Int) (en : Int) (x : Ls) : Prop := TxR D t en x.1 ∧ (0 ≤ D l 2 ∧ D l 2 ≤ 40) ∧ (x.1.2 = -1 → lst (D (l + 1)) (D l 2) = x.2)
def lwF (l : Nat) (q : Nat) (j : Int) : Prop := tF q j ∨ (l ≤ q ∧ q ≤ l + 1)
/-- a reading's contract -/
def LOK (M : MI) (n1 l : Nat) (W : Nat → Nat) (t : Int → Int) (en : Int) (f : Ps → Ls) (av : List AV) (e : Nat) : Prop := ∀ (D : DD) (p : Ps) (cd : List Int), p.2 = -1 → (cd.length : Int) ≤ p.1 → LwR D l t en (p, cd) →
  Cl e 0 0 M (vr l :: vr 17 :: av) (D, rho n1 W) (KV (fun m => ∃ D', m = (D', rho n1 W) ∧ Fr (lwF l) D D' ∧ LwR D' l t en ((f p).1, cd ++ (f p).2)))
section LRD
variable {d n1 l : Nat} {W : Nat → Nat} {D : DD} {t : Int → Int} {en : Int} {p : Ps} {cd : List Int}
theorem lw_fr {D' : DD} (hl : lawId l) (f : Fr tF D D') : D' l 2 = D l 2 ∧ D' (l + 1) = D (l + 1) :=
  ⟨f l 2 (by unfold tF; unfold lawId at hl; omega), by funext j; exact f (l + 1) j (by unfold tF; unfold lawId at hl; omega)⟩
theorem LwR.tx {D' : DD} {p' : Ps} (h : LwR D l t en (p, cd)) (hl : lawId l) (f : Fr tF D D') (T : TxR D' t en p') (g : p'.2 = -1 → p.2 = -1) : LwR D' l t en (p', cd) := by
  obtain ⟨a1, a2⟩ := lw_fr hl f
  exact ⟨T, by rw [a1]; exact h.2.1, fun z => by rw [a1, a2]; exact h.2.2 (g z)⟩
theorem lwF_t {D' : DD} (f : Fr tF D D') : Fr (lwF l) D D' := f.mono (fun _ _ h => Or.inl h)
theorem C_emit {x : Int} (hl : lawId l) (h : LwR D l t en (p, cd)) (hlen : p.2 = -1 → (cd.length : Int) < 40) : Cl d 0 0 mX2_emit [vr l, vi x] (D, rho n1 W) (KV (fun m => ∃ D', m = (D', rho n1 W) ∧ Fr (lwF l) D D' ∧ LwR D' l t en (p, cd ++ [x]))) := by
  have sl := sLaw_of (n1 := n1) (W := W) hl
  obtain ⟨k0, k1, k2, k3, k4, k5, k6⟩ := sl
  obtain ⟨hT, hb, hv⟩ := h
  have g20 : mK (D, rho n1 W) (mR (D, rho n1 W) l 0) = 20 := by
    show rK (rho n1 W) (rR (rho n1 W) l 0) = 20
    rw [k1]; exact k3
  have gN : mN (D, rho n1 W) (mR (D, rho n1 W) l 0) = 40 := by
    show rN (rho n1 W) (rR (rho n1 W) l 0) = 40
    rw [k1]; exact k5
  have e1' : mR (D, rho n1 W) l 0 = l + 1 := k1
  refine Cl_of mb_X2_emit (Nat.le_of_ble_eq_true rfl) (sg_X2_emit_0 ⟨k0, ka g20, fun c => ⟨rfl, D, rfl, Fr.refl, hT, hb, fun z => ?_⟩, fun c => ?_⟩)
  · rw [gN] at c
    have c : (40 : Int) ≤ D l 2 := c
    have e : lst (D (l + 1)) (D l 2) = cd := hv z
    have e3 := congrArg List.length e
    rw [lst_len] at e3
    have := hlen z
    omega
  · rw [gN] at c
    have c : ¬ (40 : Int) ≤ D l 2 := c
    refine ⟨g20, bnd (N := 40) gN hb.1 (by show D l 2 < 40; omega), fun m1 e1 m2 e2 => ?_⟩
    have w1 : w32 (D l 2 + 1) = D l 2 + 1 := w32_id (by omega) (by omega)
    rw [e1'] at e1
    have e1 : m1 = (wr D (l + 1) (D l 2) x, rho n1 W) := e1
    subst e1
    have q : wr D (l + 1) (D l 2) x l 2 = D l 2 := by rw [wr_o (by omega)]
    have e2 : m2 = (wr (wr D (l + 1) (D l 2) x) l 2 (D l 2 + 1), rho n1 W) := by
      rw [e2, show mD (wr D (l + 1) (D l 2) x, rho n1 W) l 2 = D l 2 from q, w1]
      rfl
    subst e2
    have F : Fr (fun q j => l ≤ q ∧ q ≤ l + 1) D (wr (wr D (l + 1) (D l 2) x) l 2 (D l 2 + 1)) := (Fr.refl.wr (by omega)).wr (by omega)
    refine ⟨rfl, _, rfl, F.mono (fun _ _ h => Or.inr h), hT.fr F (fun q j a b => by unfold lawId at hl; omega), by rw [wr_at]; omega, fun z => ?_⟩
    rw [wr_at, wr_o (by omega), wr_A, lst_push hb.1]
    rw [show lst (D (l + 1)) (D l 2) = cd from hv z]
theorem hskip {c : Int} {x : Int} {p : Ps} (hg : p.2 = -1) (q : p.2 = -1 → x = if zskip t en c p = true then 1 else 0) : x = if pk t en p.1 = c then 1 else 0 := by
  have q := q hg
  unfold zskip at q
  by_cases e : pk t en p.1 = c
  · rw [decide_eq_true hg, decide_eq_true e] at q
    rw [if_pos e]
    exact q
  · rw [decide_eq_true hg, decide_eq_false e] at q
    rw [if_neg e]
    exact q
theorem zskipP_y {c : Int} {p : Ps} (hg : p.2 = -1) (e : pk t en p.1 = c) : zskip t en c p = true ∧ zskipP t en c p = (p.1 + 1, -1) := by
  have hz : zskip t en c p = true := by
    unfold zskip
    rw [decide_eq_true hg, decide_eq_true e]
    rfl
  exact ⟨hz, by unfold zskipP; rw [if_pos hz, hg]⟩
theorem zskipP_n {c : Int} {p : Ps} (e : ¬ (p.2 = -1 ∧ pk t en p.1 = c)) : ¬ zskip t en c p = true ∧ zskipP t en c p = p := by
  have hz : ¬ zskip t en c p = true := fun z => e (zskip_at z)
  exact ⟨hz, by unfold zskipP; rw [if_neg hz]⟩
theorem C_readName (hl : lawId l) (h40 : en ≤ 40) : LOK mX2_readName n1 l W t en (lname t en) [] (d + 3) := by
  intro D p cd hg hlen h
  have sl := (sLaw_of (n1 := n1) (W := W) hl).1
  have hT : TxR D t en p := h.1
  have yes : ∀ {c x : Int} {G : DD}, 0 ≤ c → pk t en p.1 = c → lname t en p = ((p.1 + 1, -1), [x]) → Fr tF D G → TxR G t en (zskipP t en c p) → Cl (d + 2) 0 0 mX2_emit [vr l, vi x] (G, rho n1 W) (KV (fun m => ∃ D', m = (D', rho n1 W) ∧ Fr (lwF l) D D' ∧ LwR D' l t en ((lname t en p).1, cd ++ (lname t en p).2))) := by
    intro c x G hc e en' f T
    rw [(zskipP_y hg e).2] at T
    have hlt := pkc_lt e hc
    rw [en']
    exact (C_emit hl (h.tx (p' := (p.1 + 1, -1)) hl f T (fun _ => hg)) (fun _ => by omega)).weak (KV.weak (fun m ⟨H, e1, e2, e3⟩ => ⟨H, e1, (lwF_t f).trans e2, e3⟩))
  refine Cl_of mb_X2_readName (Nat.le_of_ble_eq_true rfl) (sg_X2_readName_0 ⟨rfl, cI (C_skip (by decide) hT) ?_⟩)
  rintro x1 m ⟨G1, rfl, f1, T1, q1, -⟩
  have q1 := hskip hg q1
  subst q1
  by_cases e1 : pk t en p.1 = 112
  · rw [if_pos e1]
    refine yE ⟨sl, cV (yes (x := -6) (by decide) e1 ?_ f1 T1) (fun m hm => ⟨rfl, hm⟩)⟩
    unfold lname
    rw [if_pos e1]
  rw [if_neg e1]
  rw [(zskipP_n (fun z => e1 z.2)).2] at T1
  refine nE ⟨rfl, cI (C_skip (by decide) T1) ?_⟩
  rintro x2 m ⟨G2, rfl, f2, T2, q2, -⟩
  have q2 := hskip hg q2
  have f2 := f1.trans f2
  subst q2
  by_cases e2 : pk t en p.1 = 115
  · rw [if_pos e2]
    refine yE ⟨sl, cV (yes (x := -7) (by decide) e2 ?_ f2 T2) (fun m hm => ⟨rfl, hm⟩)⟩
    unfold lname
    rw [if_neg e1, if_pos e2]
  rw [if_neg e2]
  rw [(zskipP_n (fun z => e2 z.2)).2] at T2
  refine nE ⟨rfl, cI (C_skip (by decide) T2) ?_⟩
  rintro x3 m ⟨G3, rfl, f3, T3, q3, -⟩
  have q3 := hskip hg q3
  have f3 := f2.trans f3
  subst q3
  by_cases e3 : pk t en p.1 = 116
  · rw [if_pos e3]
    refine yE ⟨sl, cV (yes (x := -8) (by decide) e3 ?_ f3 T3) (fun m hm => ⟨rfl, hm⟩)⟩
    unfold lname
    rw [if_neg e1, if_neg e2, if_pos e3]
  rw [if_neg e3]
  rw [(zskipP_n (fun z => e3 z.2)).2] at T3
  refine nE ⟨rfl, cI (C_skip (by decide) T3) ?_⟩
  rintro x4 m ⟨G4, rfl, f4, T4, q4, -⟩
  have q4 := hskip hg q4
  have f4 := f3.trans f4
  subst q4
  by_cases e4 : pk t en p.1 = 102
  · rw [if_pos e4]
    refine yE ⟨sl, cV (yes (x := -9) (by decide) e4 ?_ f4 T4) (fun m hm => ⟨rfl, hm⟩)⟩
    unfold lname
    rw [if_neg e1, if_neg e2, if_neg e3, if_pos e4]
  rw [if_neg e4]
  rw [(zskipP_n (fun z => e4 z.2)).2] at T4
  refine nE ⟨rfl, cI (C_skip (by decide) T4) ?_⟩
  rintro x5 m ⟨G5, rfl, f5, T5, q5, -⟩
  have q5 := hskip hg q5
  have f5 := f4.trans f5
  subst q5
  by_cases e5 : pk t en p.1 = 104
  · rw [if_pos e5]
    refine yE ⟨sl, cV (yes (x := -10) (by decide) e5 ?_ f5 T5) (fun m hm => ⟨rfl, hm⟩)⟩
    unfold lname
    rw [if_neg e1, if_neg e2, if_neg e3, if_neg e4, if_pos e5]
  rw [if_neg e5]
  rw [(zskipP_n (fun z => e5 z.2)).2] at T5
  refine nE ⟨rfl, cV (C_failHere T5) ?_⟩
  rintro m ⟨G6, rfl, f6, T6⟩
  have f6 := f5.trans f6
  rw [if_pos hg] at T6
  refine ⟨rfl, G6, rfl, lwF_t f6, ?_⟩
  have ee : lname t en p = ((p.1, p.1), []) := by
    unfold lname
    rw [if_neg e1, if_neg e2, if_neg e3, if_neg e4, if_neg e5]
  rw [ee]
  refine h.tx (p' := (p.1, p.1)) hl f6 T6 (fun _ => hg) |> fun z => ?_
  rw [show cd ++ (((p.1, p.1), []) : Ls).2 = cd from List.append_nil cd]
  exact z
end LRD
