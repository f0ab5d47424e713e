/-! ===== the constructors: what is there, object by object ===== -/
def W00 : Nat → Nat := fun i => match i with
  | 0 => 123
  | 1 => 128
  | 2 => 133
  | 3 => 138
  | 4 => 21
  | 5 => 143
  | 6 => 146
  | 7 => 149
  | 8 => 27
  | _ => 0
/-- the numbers that an object holds at first -/
def dl (o : Nat) : List Int := if o = 5 ∨ o = 31 ∨ o = 46 then [7, 100, 80] else if o = 6 ∨ o = 32 ∨ o = 47 ∨ o = 153 then [8, 2, 0, 6, 0, 0, 3] else if o = 7 ∨ o = 33 ∨ o = 48 ∨ o = 154 then List.replicate 20 100
  else if o = 8 ∨ o = 34 ∨ o = 52 ∨ o = 60 ∨ o = 68 ∨ o = 76 ∨ o = 84 ∨ o = 99 ∨ o = 107 ∨ o = 115 then [0, 1] else if o = 17 then [0, 0, 0, 0, -1] else if o = 30 then [0, 0, 0, 0, 0, -1]
  else if o = 152 then [8, 100, 80, 0, 0, 0, 0, 0, 0, 0, 1] else []
def lk (l : List Int) : Int → Int
  | Int.ofNat t => l.getD t 0
  | Int.negSucc _ => 0
def dv (o : Nat) (j : Int) : Int := lk (dl o) j
/-- what lay there ahead of the law, and the numbers at first -/
def dS (B : DD) : DD := fun o j => if o < 4 then B o j else dv o j
def Kx (x : Nat) : Nat → Nat := fun o => if o < x then KT o else 0
def Nx (n1 x : Nat) : Nat → Nat := fun o => if o < x then NT n1 o else 0
def BM (n1 x : Nat) (R : Nat → Int → Nat) (D : DD) : Mem := (D, R, Kx x, Nx n1 x, x)
def RI (x : Nat) (S : List (Nat × Nat)) (R : Nat → Int → Nat) : Prop := (∀ o j, o < x → (∀ t : Nat, j = (t : Int) → (o, t) ∉ S) → R o j = RF W00 o j) ∧ ∀ o j, x ≤ o → R o j = 0
def DI (F : DD) (x : Nat) (T : List (Nat × Nat)) (D : DD) : Prop := ∀ o j, o < x → (∀ t : Nat, j = (t : Int) → (o, t) ∉ T) → D o j = F o j
def plR (x : Nat) : List Nat := (List.range 66).filter (fun t => !(Nat.beq (RF W00 x (t : Int)) 0))
def plD (x : Nat) : List Nat := (List.range 66).filter (fun t => !(decide (dv x (t : Int) = 0)))
theorem rc_neg {j : Int} (h : j < 0) (o : Nat) : RC o j = 0 := by
  have h2 : ¬ (0 ≤ j ∧ j < 3) := by omega
  have h4 : ¬ (0 ≤ j ∧ j < 4) := by omega
  have h5 : ¬ (0 ≤ j ∧ j < 5) := by omega
  unfold RC
  simp only [if_pos h, if_neg h2, if_neg h4, if_neg h5, Bool.cond_self]
theorem rc_66 {j : Int} (h : 66 ≤ j) (o : Nat) : RC o j = 0 := by
  have h1 : ¬ j < 0 := by omega
  have h2 : ¬ (0 ≤ j ∧ j < 3) := by omega
  have h4 : ¬ (0 ≤ j ∧ j < 4) := by omega
  have h5 : ¬ (0 ≤ j ∧ j < 5) := by omega
  have hb : ∀ c : Nat, c ≤ 65 → Nat.ble j.toNat c = false := fun c hc => by
    cases e : Nat.ble j.toNat c
    · rfl
    · have := Nat.le_of_ble_eq_true e
      omega
  unfold RC
  simp only [if_neg h1, if_neg h2, if_neg h4, if_neg h5, hb, Nat.reduceLeDiff, Bool.cond_self, Bool.cond_false, cond_false]
theorem rf_rc {j : Int} (h : j < 0 ∨ 66 ≤ j) (o : Nat) : RF W00 o j = RC o j := by
  unfold RF
  rw [if_neg (by omega), if_neg (by omega), if_neg (by omega), if_neg (by omega), if_neg (by omega), if_neg (by omega), if_neg (by omega)]
theorem rf_big {x : Nat} {j : Int} (h : ∀ t : Nat, j = (t : Int) → t ∉ plR x) : RF W00 x j = 0 := by
  by_cases c : j < 0 ∨ 66 ≤ j
  · rw [rf_rc c]
    rcases c with c | c
    · exact rc_neg c x
    · exact rc_66 c x
  · have q := h j.toNat (by omega)
    by_cases z : RF W00 x j = 0
    · exact z
    · refine absurd (List.mem_filter.mpr ⟨List.mem_range.mpr (by omega), ?_⟩) q
      rw [show ((j.toNat : Nat) : Int) = j by omega]
      cases e : Nat.beq (RF W00 x j) 0
      · rfl
      · exact absurd (Nat.eq_of_beq_eq_true e) z
theorem dl_len (o : Nat) : (dl o).length ≤ 66 := by
  unfold dl
  repeat' split
  all_goals exact Nat.le_of_ble_eq_true rfl
theorem dv_big {x : Nat} {j : Int} (h : ∀ t : Nat, j = (t : Int) → t ∉ plD x) : dv x j = 0 := by
  cases j with
  | negSucc k => rfl
  | ofNat t =>
    by_cases c : t < 66
    · have q := h t rfl
      by_cases z : dv x (Int.ofNat t) = 0
      · exact z
      · refine absurd (List.mem_filter.mpr ⟨List.mem_range.mpr c, ?_⟩) q
        have z : ¬ dv x (t : Int) = 0 := z
        rw [decide_eq_false z]
        rfl
    · show (dl x).getD t 0 = 0
      have := dl_len x
      rw [List.getD_eq_getElem?_getD, List.getElem?_eq_none (by omega)]
      rfl
section INI
variable {n1 x : Nat} {S S' T T' : List (Nat × Nat)} {R : Nat → Int → Nat} {D F : DD} {m : Mem}
theorem Kx_s {x : Nat} : (fun o => if o = x then KT x else Kx x o) = Kx (x + 1) := by
  funext o
  unfold Kx
  by_cases e : o = x
  · rw [if_pos e, if_pos (by omega), e]
  · rw [if_neg e]
    by_cases c : o < x
    · rw [if_pos c, if_pos (by omega)]
    · rw [if_neg c, if_neg (by omega)]
theorem Nx_s {x : Nat} : (fun o => if o = x then NT n1 x else Nx n1 x o) = Nx n1 (x + 1) := by
  funext o
  unfold Nx
  by_cases e : o = x
  · rw [if_pos e, if_pos (by omega), e]
  · rw [if_neg e]
    by_cases c : o < x
    · rw [if_pos c, if_pos (by omega)]
    · rw [if_neg c, if_neg (by omega)]
theorem step_nw (k n : Nat) (hR : RI x S R) (hD : DI F x T D) (e : m = nwM (BM n1 x R D) k n) (hK : KT x = k) (hN : NT n1 x = n) (hF : ∀ j, F x j = dv x j)
    (hS : (plR x).map (fun t => (x, t)) ++ S = S') (hT : (plD x).map (fun t => (x, t)) ++ T = T') : ∃ (R' : Nat → Int → Nat) (D' : DD), m = BM n1 (x + 1) R' D' ∧ RI (x + 1) S' R' ∧ DI F (x + 1) T' D' := by
  refine ⟨fun o j => if o = x then 0 else R o j, fun o j => if o = x then 0 else D o j, ?_, ⟨fun o j ho hp => ?_, fun o j ho => ?_⟩, fun o j ho hp => ?_⟩
  · rw [e, ← hK, ← hN]
    unfold BM
    rw [← Kx_s, ← Nx_s]
    rfl
  · show (if o = x then 0 else R o j) = RF W00 o j
    by_cases c : o = x
    · rw [if_pos c, c]
      refine (rf_big (fun t ht z => hp t ht ?_)).symm
      rw [← hS, c]
      exact List.mem_append_left _ (List.mem_map.mpr ⟨t, z, rfl⟩)
    · rw [if_neg c]
      refine hR.1 o j (by omega) (fun t ht z => hp t ht ?_)
      rw [← hS]
      exact List.mem_append_right _ z
  · show (if o = x then 0 else R o j) = 0
    rw [if_neg (by omega)]
    exact hR.2 o j (by omega)
  · show (if o = x then 0 else D o j) = F o j
    by_cases c : o = x
    · rw [if_pos c, c, hF]
      refine (dv_big (fun t ht z => hp t ht ?_)).symm
      rw [← hT, c]
      exact List.mem_append_left _ (List.mem_map.mpr ⟨t, z, rfl⟩)
    · rw [if_neg c]
      refine hD o j (by omega) (fun t ht z => hp t ht ?_)
      rw [← hT]
      exact List.mem_append_right _ z
theorem step_rf (a t b : Nat) (hR : RI x S R) (hD : DI F x T D) {j : Int} (e : m = sR (BM n1 x R D) a j b) (hj : j = (t : Int)) (hv : RF W00 a (t : Int) = b) (ha : a < x) (hS : S.erase (a, t) = S') : ∃ (R' : Nat → Int → Nat) (D' : DD), m = BM n1 x R' D' ∧ RI x S' R' ∧ DI F x T D' := by
  subst hj
  refine ⟨fun o k => if o = a ∧ k = (t : Int) then b else R o k, D, e, ⟨fun o j ho hp => ?_, fun o j ho => ?_⟩, hD⟩
  · show (if o = a ∧ j = (t : Int) then b else R o j) = RF W00 o j
    by_cases c : o = a ∧ j = (t : Int)
    · rw [if_pos c, c.1, c.2]
      exact hv.symm
    · rw [if_neg c]
      refine hR.1 o j ho (fun s hs z => hp s hs ?_)
      rw [← hS]
      refine (List.mem_erase_of_ne (fun y => c ?_)).mpr z
      have y1 : o = a := congrArg Prod.fst y
      have y2 : s = t := congrArg Prod.snd y
      exact ⟨y1, by rw [hs, y2]⟩
  · show (if o = a ∧ j = (t : Int) then b else R o j) = 0
    rw [if_neg (by omega)]
    exact hR.2 o j ho
theorem step_nm (a t : Nat) (v : Int) (hR : RI x S R) (hD : DI F x T D) {j : Int} (e : m = sD (BM n1 x R D) a j v) (hj : j = (t : Int)) (hv : F a (t : Int) = v) (hT : T.erase (a, t) = T') : ∃ (R' : Nat → Int → Nat) (D' : DD), m = BM n1 x R' D' ∧ RI x S R' ∧ DI F x T' D' := by
  subst hj
  refine ⟨R, fun o k => if o = a ∧ k = (t : Int) then v else D o k, e, hR, fun o j ho hp => ?_⟩
  show (if o = a ∧ j = (t : Int) then v else D o j) = F o j
  by_cases c : o = a ∧ j = (t : Int)
  · rw [if_pos c, c.1, c.2]
    exact hv.symm
  · rw [if_neg c]
    refine hD o j ho (fun s hs z => hp s hs ?_)
    rw [← hT]
    refine (List.mem_erase_of_ne (fun y => c ?_)).mpr z
    have y1 : o = a := congrArg Prod.fst y
    have y2 : s = t := congrArg Prod.snd y
    exact ⟨y1, by rw [hs, y2]⟩
theorem step_fi (a n : Nat) (v : Int) (hR : RI x S R) (hD : DI F x T D) {k : Int} (e : m = sF (BM n1 x R D) a k v) (hk : k = (n : Int)) (hv : ∀ t : Nat, t < n → F a (t : Int) = v) (hT : ∀ p ∈ T, (p.1 = a ∧ p.2 < n) ∨ p ∈ T') : ∃ (R' : Nat → Int → Nat) (D' : DD), m = BM n1 x R' D' ∧ RI x S R' ∧ DI F x T' D' := by
  subst hk
  refine ⟨R, fun o k => if o = a ∧ 0 ≤ k ∧ k < (n : Int) then v else D o k, e, hR, fun o j ho hp => ?_⟩
  show (if o = a ∧ 0 ≤ j ∧ j < (n : Int) then v else D o j) = F o j
  by_cases c : o = a ∧ 0 ≤ j ∧ j < (n : Int)
  · rw [if_pos c, c.1]
    have q := hv j.toNat (by omega)
    rw [show ((j.toNat : Nat) : Int) = j by omega] at q
    exact q.symm
  · rw [if_neg c]
    refine hD o j ho (fun s hs z => ?_)
    rcases hT _ z with ⟨q1, q2⟩ | q
    · have q1 : o = a := q1
      have q2 : s < n := q2
      exact c ⟨q1, by omega, by omega⟩
    · exact hp s hs q
theorem RI.of (h : RI x S R) (hS : ∀ p ∈ S, p ∈ S') : RI x S' R := ⟨fun o j ho hp => h.1 o j ho (fun t ht z => hp t ht (hS _ z)), h.2⟩
theorem RI.at (h : RI x S R) (o t : Nat) (ho : o < x) (hp : (o, t) ∉ S) : R o (t : Int) = RF W00 o (t : Int) := h.1 o t ho (fun s hs => by
  have : s = t := by omega
  rw [this]
  exact hp)
end INI
