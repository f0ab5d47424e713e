/-! ===== the model's LAW: what is read is what is worked out ===== -/
/-- push, slope, tick, foam, height -/
abbrev LEnv : Type := Int × Int × Int × Int × Int
def LEnv.pu (ε : LEnv) : Int := ε.1
def LEnv.sl (ε : LEnv) : Int := ε.2.1
def LEnv.ti (ε : LEnv) : Int := ε.2.2.1
def LEnv.fo (ε : LEnv) : Int := ε.2.2.2.1
def LEnv.he (ε : LEnv) : Int := ε.2.2.2.2
def LEnv.ok (ε : LEnv) : Prop := w32 (LEnv.pu ε) = (LEnv.pu ε) ∧ w32 (LEnv.sl ε) = (LEnv.sl ε) ∧ w32 (LEnv.ti ε) = (LEnv.ti ε) ∧ w32 (LEnv.fo ε) = (LEnv.fo ε) ∧ w32 (LEnv.he ε) = (LEnv.he ε)
def lev (ε : LEnv) (st : List Int) (cs : List Int) : List Int := cs.foldl (fun st x => zev (LEnv.pu ε) (LEnv.sl ε) (LEnv.ti ε) (LEnv.fo ε) (LEnv.he ε) x st) st
/-- a segment of code that pushes r (room for nd more) -/
def Val (ε : LEnv) (nd : Nat) (cs : List Int) (r : Int) : Prop := w32 r = r ∧ ∀ st : List Int, st.length + nd ≤ 40 → lev ε st cs = r :: st
theorem lev_app {ε : LEnv} {st a b : List Int} : lev ε st (a ++ b) = lev ε (lev ε st a) b := List.foldl_append
theorem Val.le {ε : LEnv} {n m : Nat} {cs : List Int} {r : Int} (h : Val ε n cs r) (l : n ≤ m) : Val ε m cs r := ⟨h.1, fun st q => h.2 st (by omega)⟩
theorem w32_w32 {x : Int} : w32 (w32 x) = w32 x := by
  have := w32_r x
  unfold r32 at this
  exact w32_id (by omega) (by omega)
theorem Val.one {ε : LEnv} {x r : Int} (h5 : x ≠ -5) (hn : ¬ (-4 ≤ x ∧ x ≤ -1)) (hr : w32 r = r) (e : (if x < 0 then zname x (LEnv.pu ε) (LEnv.sl ε) (LEnv.ti ε) (LEnv.fo ε) (LEnv.he ε) else x) = r) : Val ε 1 [x] r := by
  refine ⟨hr, fun st q => ?_⟩
  have hp : zpush (LEnv.pu ε) (LEnv.sl ε) (LEnv.ti ε) (LEnv.fo ε) (LEnv.he ε) x st = r :: st := by
    unfold zpush
    rw [if_pos (by omega), e]
  show zev (LEnv.pu ε) (LEnv.sl ε) (LEnv.ti ε) (LEnv.fo ε) (LEnv.he ε) x st = r :: st
  rw [← hp]
  rcases st with _ | ⟨a, _ | ⟨b, s⟩⟩
  · rfl
  · exact zev_one h5
  · rw [zev_two h5, if_neg hn]
theorem Val.neg {ε : LEnv} {n : Nat} {cs : List Int} {r : Int} (h : Val ε n cs r) : Val ε n (cs ++ [-5]) (w32 (-r)) := by
  refine ⟨w32_w32, fun st q => ?_⟩
  rw [lev_app, h.2 st q]
  rfl
theorem Val.two {ε : LEnv} {n : Nat} {cs ds : List Int} {a b x : Int} (h : Val ε (n + 1) cs a) (k : Val ε n ds b) (hx : -4 ≤ x ∧ x ≤ -1) : Val ε (n + 1) ((cs ++ ds) ++ [x]) (zjoin x a b) := by
  refine ⟨?_, fun st q => ?_⟩
  · unfold zjoin
    split
    · exact w32_w32
    split
    · exact w32_w32
    split
    · exact w32_w32
    split
    · rfl
    · exact w32_w32
  · rw [lev_app, lev_app, h.2 st q, k.2 (a :: st) (by rw [List.length_cons]; omega)]
    show zev (LEnv.pu ε) (LEnv.sl ε) (LEnv.ti ε) (LEnv.fo ε) (LEnv.he ε) x (b :: a :: st) = _
    rw [zev_two (by omega), if_pos hx]
section LNG
variable {t : Int → Int} {en : Int}
theorem lnegs_not : ∀ {n : Nat} {p : Ps} {b : Bool}, lnegs t en n p (!b) = ((lnegs t en n p b).1, !(lnegs t en n p b).2)
  | 0, _, _ => rfl
  | n + 1, p, b => by
    have e : ∀ b, lnegs t en (n + 1) p b = if zskip t en 45 p = true then lnegs t en n (p.1 + 1, -1) (!b) else (p, b) := fun _ => rfl
    rw [e, e]
    by_cases z : zskip t en 45 p = true
    · rw [if_pos z, if_pos z, lnegs_not]
    · rw [if_neg z, if_neg z]
theorem lnegs_more : ∀ {n : Nat} {p : Ps} {b : Bool}, en - p.1 ≤ n → lnegs t en (n + 1) p b = lnegs t en n p b
  | 0, p, b, h => by
    refine if_neg (fun z => ?_)
    have := pkc_lt (zskip_at z).2 (by decide)
    have h : en - p.1 ≤ ((0 : Nat) : Int) := h
    omega
  | n + 1, p, b, h => by
    have e : ∀ m b, lnegs t en (m + 1) p b = if zskip t en 45 p = true then lnegs t en m (p.1 + 1, -1) (!b) else (p, b) := fun _ _ => rfl
    rw [e, e]
    by_cases z : zskip t en 45 p = true
    · rw [if_pos z, if_pos z]
      exact lnegs_more (by dsimp only; omega)
    · rw [if_neg z, if_neg z]
theorem lnegs_y {p : Ps} (h40 : en ≤ 40) (h0 : 0 ≤ p.1) (z : zskip t en 45 p = true) : lnegs t en 40 p false = ((lnegs t en 40 (p.1 + 1, -1) false).1, !(lnegs t en 40 (p.1 + 1, -1) false).2) := by
  have e : lnegs t en 40 p false = if zskip t en 45 p = true then lnegs t en 39 (p.1 + 1, -1) (!false) else (p, false) := rfl
  rw [e, if_pos z, lnegs_not, ← lnegs_more (n := 39) (by dsimp only; omega)]
theorem lnegs_n {p : Ps} (z : ¬ zskip t en 45 p = true) : lnegs t en 40 p false = (p, false) := if_neg z
theorem lmore_stop {c1 e1 c2 e2 : Int} {g : Ps → Ls} {x : Ls} (h1 : ¬ zskip t en c1 x.1 = true) (h2 : ¬ zskip t en c2 x.1 = true) : ∀ {n : Nat}, lmore t en c1 e1 c2 e2 g n x = x
  | 0 => rfl
  | _ + 1 => (if_neg h1).trans (if_neg h2)
end LNG
def lT (t : Int → Int) (en : Int) : Nat → Ps → Ls
  | 0 => lthing t en (fun p => (p, [])) false
  | k + 1 => lthing t en (lS t en k) true
theorem lS_eq {t : Int → Int} {en : Int} {k : Nat} : lS t en k = lsum t en (lprod t en (lT t en k)) := by cases k <;> rfl
/-- room that a thing with k brackets yet to open takes -/
def ndT (k : Nat) : Nat := 2 * k + 1
def EnvR (ε : LEnv) (D : DD) : Prop := D 152 36 = (LEnv.pu ε) ∧ D 152 37 = (LEnv.sl ε) ∧ D 152 38 = (LEnv.ti ε) ∧ D 153 2 = (LEnv.fo ε) ∧ D 152 39 = (LEnv.he ε)
/-- the contract of the model's reading -/
def MOK (M : MI) (n1 : Nat) (W : Nat → Nat) (t : Int → Int) (en : Int) (ε : LEnv) (f : Ps → Ls) (nd : Nat) (dp : Int) (c : Int) (n : Int) : Prop := ∀ (D : DD) (p : Ps) (e : Nat), p.2 = -1 → MxR D W t en p → EnvR ε D → en - p.1 ≤ n → 3 * (en - p.1) + c ≤ e →
  Cl e 0 0 M [vr 152, vi dp] (D, rho n1 W) (KI (fun r m => ∃ D', m = (D', rho n1 W) ∧ Fr mxF D D' ∧ MxR D' W t en (f p).1 ∧ (LEnv.ok ε → (f p).1.2 = -1 → Val ε nd (f p).2 r)))
section MLW
variable {d n1 : Nat} {W : Nat → Nat} {D : DD} {t : Int → Int} {en : Int} {p : Ps} {ε : LEnv}
theorem EnvR.fr {D' : DD} (h : EnvR ε D) (f : Fr mxF D D') : EnvR ε D' := by
  obtain ⟨h1, h2, h3, h4, h5⟩ := h
  exact ⟨by rw [f 152 36 (by unfold mxF; omega)]; exact h1, by rw [f 152 37 (by unfold mxF; omega)]; exact h2, by rw [f 152 38 (by unfold mxF; omega)]; exact h3, by rw [f 153 2 (by unfold mxF; omega)]; exact h4, by rw [f 152 39 (by unfold mxF; omega)]; exact h5⟩
end MLW
