/-! ===== ends of methods, contracts ===== -/
def noX (μ : Mem) : Mem := (mD μ, mR μ, mK μ, mN μ, 0)
def PcC (G : GT) (av : List AV) (μ : Mem) : Array Value → State → Prop := fun a U => a = (av.map (toV (gad G))).toArray ∧ oks av ∧ Rp G μ U U.heap [] ∧ Sx G U
def QcC (G : GT) (K : Option (Option AV) → Mem → Prop) : Array Value → State → Outcome → State → Prop := fun _ st oc t =>
  (∃ (r : Option AV) (μ' : Mem), K (some r) μ' ∧ oc = .returned (r.map (toV (gad G))) ∧ (∀ v, r = some v → okv v) ∧ Rp G μ' t t.heap []) ∧ va_F (gA G) st t
def XcC (G : GT) (K : Option (Option AV) → Mem → Prop) : String → State → State → Prop := fun E st t =>
  (E = "java/util/NoSuchElementException" ∧ ∃ μ' : Mem, K none μ' ∧ Rp G (noX μ') t t.heap []) ∧ va_F (gA G) st t
def rmC (d mc ms : Nat) : Room := { frames := d + 12, cells := mc, slots := ms, locals := 60 * d + 200 }
/-- a method's contract: from memory μ with these arguments it ends as K says; at most mc new cells of ms slots; d calls deep -/
def Cl (d mc ms : Nat) (M : MI) (av : List AV) (μ : Mem) (K : Option (Option AV) → Mem → Prop) : Prop :=
  ∀ (l : Launch) (G : GT), l.stackTraces = false → vx_Met l (mnm M) (mwd M :: bigW) (rmC d mc ms) (PcC G av μ) (QcC G K) (XcC G K) mc ms (gA G)
section ENDS
variable {d bc bs : Nat} {M : MI} {pc : Nat} {ls : List (Option AV)} {st : List AV} {μ : Mem} {Q : Option (Option AV) → Mem → Prop}
theorem st_ireturn {x : Int} (hd : decode (mcd M) pc = .ok (.ireturn, 1)) (hr : mrt M = some .int ∨ (mrt M = some .boolean ∧ (x = 0 ∨ x = 1))) (hq : Q (some (some (vi x))) μ) : Wp d bc bs M pc ls [vi x] μ Q := by
  intro p l e R s m args below meth c H locs cells slots Qf G lm hC hR hL hs hc hsl hE
  exact hE (some (some (vi x))) μ H locs cells slots pc lm hq ⟨hd, hr⟩ (fun v h => by cases h; exact oks_h hs) hR hL.2.1 (by show cells + 0 ≤ _; omega) (by show slots + 6 * 0 ≤ _; omega)
theorem st_lreturn {x : Int} (hd : decode (mcd M) pc = .ok (.lreturn, 1)) (hr : mrt M = some .long) (hq : Q (some (some (vl x))) μ) : Wp d bc bs M pc ls [vl x] μ Q := by
  intro p l e R s m args below meth c H locs cells slots Qf G lm hC hR hL hs hc hsl hE
  exact hE (some (some (vl x))) μ H locs cells slots pc lm hq ⟨hd, hr⟩ (fun v h => by cases h; exact oks_h hs) hR hL.2.1 (by show cells + 0 ≤ _; omega) (by show slots + 6 * 0 ≤ _; omega)
theorem st_areturn {r : Nat} (hd : decode (mcd M) pc = .ok (.areturn, 1)) (hr : isNRef (mrt M) = true) (hq : Q (some (some (vr r))) μ) : Wp d bc bs M pc ls [vr r] μ Q := by
  intro p l e R s m args below meth c H locs cells slots Qf G lm hC hR hL hs hc hsl hE
  exact hE (some (some (vr r))) μ H locs cells slots pc lm hq ⟨hd, hr⟩ (fun v h => by cases h; exact trivial) hR hL.2.1 (by show cells + 0 ≤ _; omega) (by show slots + 6 * 0 ≤ _; omega)
theorem st_return (hd : decode (mcd M) pc = .ok (.return_, 1)) (hr : mrt M = none) (hq : Q (some none) μ) : Wp d bc bs M pc ls [] μ Q := by
  intro p l e R s m args below meth c H locs cells slots Qf G lm hC hR hL hs hc hsl hE
  exact hE (some none) μ H locs cells slots pc lm hq ⟨hd, hr⟩ (fun v h => by cases h) hR hL.2.1 (by show cells + 0 ≤ _; omega) (by show slots + 6 * 0 ≤ _; omega)
theorem st_throw (h9 : mow M = 9) (hh : mhh M = []) (d0 : decode (mcd M) pc = .ok (.new thK, 3)) (d3 : decode (mcd M) (pc + 3) = .ok (.dup, 1)) (d4 : decode (mcd M) (pc + 4) = .ok (.invokespecial thC, 3)) (d7 : decode (mcd M) (pc + 7) = .ok (.athrow, 1)) (h1 : 1 ≤ bc) (h6 : 6 ≤ bs) (hq : Q none μ) : Wp d bc bs M pc ls [] μ Q := by
  intro p l e R s m args below meth c H locs cells slots Qf G lm hC hR hL hs hc hsl hE
  exact hE none μ H locs cells slots pc lm hq ⟨h9, hh, d0, d3, d4, d7⟩ (fun v h => by cases h) hR hL.2.1 (by show cells + 1 ≤ _; omega) (by show slots + 6 * 1 ≤ _; omega)
/-- less room is room enough -/
theorem Wp.room {bc' bs' : Nat} (h1 : bc' ≤ bc) (h2 : bs' ≤ bs) (k : Wp d bc' bs' M pc ls st μ Q) : Wp d bc bs M pc ls st μ Q := by
  intro p l e R s m args below meth c H locs cells slots Qf G lm hC hR hL hs hc hsl hE
  exact k p l e R s m args below meth c H locs cells slots Qf G lm hC hR hL hs (by omega) (by omega) hE
theorem Wp.weak {Q' : Option (Option AV) → Mem → Prop} (h : ∀ r μ', Q' r μ' → Q r μ') (k : Wp d bc bs M pc ls st μ Q') : Wp d bc bs M pc ls st μ Q := by
  intro p l e R s m args below meth c H locs cells slots Qf G lm hC hR hL hs hc hsl hE
  exact k p l e R s m args below meth c H locs cells slots Qf G lm hC hR hL hs hc hsl (fun res μ' H' locs' cells' slots' pc' lm' hq => hE res μ' H' locs' cells' slots' pc' lm' (h _ _ hq))
end ENDS
theorem Rp.moveS {G : GT} {μ : Mem} {s U : State} {H : Heap} {locs : List Loc} (h : Rp G μ s H locs) (hU : U.heap = H) (hvm : s.vm.Alike U.vm) : Rp G μ U U.heap [] := by
  obtain ⟨h1, h2, h3, h4, h5, h6⟩ := h
  subst hU
  exact ⟨h1, fun o ho => ⟨(h2 o ho).1, (h2 o ho).2.moved hvm⟩, va_S.rf, h4, h5, h6⟩
/-- behind a call: the callee's end, seen by the caller -/
theorem Rp.back {G : GT} {μ μ' : Mem} {s st₀ t T' : State} {H : Heap} {locs L : List Loc} (h : Rp G μ s H locs) (hB : gB G ≤ s.heap.size) (h' : Rp G μ' t t.heap []) (h0 : st₀.heap = H) (e1 : T'.heap = t.heap) (hvm : s.vm.Alike t.vm) (hF : va_F (gA G) st₀ t) (hL : ∀ q ∈ L, gA G q.base) : Rp G μ' s T'.heap (locs ++ L) := by
  obtain ⟨-, -, h3, -, -, -⟩ := h
  obtain ⟨g1, g2, g3, g4, g5, g6⟩ := h'
  rw [e1]
  obtain ⟨f1, f2⟩ := hF
  rw [h0] at f1 f2
  refine ⟨g1, fun o ho => ⟨(g2 o ho).1, (g2 o ho).2.moved hvm.symm⟩, ⟨Nat.le_trans h3.1 f1, fun q q1 q2 => ?_, fun q hq => ?_⟩, g4, g5, g6⟩
  · rw [f2 q (Nat.lt_of_lt_of_le q1 h3.1) q2]
    exact h3.2.1 q q1 q2
  · rcases List.mem_append.mp hq with z | z
    · exact h3.2.2 q z
    · exact hL q z
theorem nst_warm {s U : State} (hW : s.WarmedH U.vm) (h : ∀ w ∈ nstW, va_Nw w s) : ∀ w ∈ nstW, va_Nw w U := by
  intro w hw
  have h1 := h w hw
  have h2 := (List.mem_filter.mp hw).2
  unfold nestW at h2
  split at h2
  · exact va_Nw.warmM hW h1
  · cases h2
def tnW (w : Cond) : Bool := match w with
  | .castable _ _ => true
  | .declares _ => true
  | _ => false
theorem thN_ok : thN.all tnW = true := by decide +kernel
theorem thN_warm {s U : State} (hW : s.WarmedH U.vm) (h : ∀ w ∈ thN, va_Nw w s) : ∀ w ∈ thN, va_Nw w U := by
  intro w hw
  have h1 := h w hw
  have h2 := List.all_eq_true.mp thN_ok w hw
  unfold tnW at h2
  split at h2
  · exact va_Nw.warmC hW h1
  · exact va_Nw.warmD hW h1
  · cases h2
theorem Sx.moved {G : GT} {s U : State} {H : Heap} {locs : List Loc} (h : Sx G s) (hS : va_S (gA G) s.heap H locs) (hU : U.heap = H) (hW : s.WarmedH U.vm) : Sx G U := by
  obtain ⟨h1, h2, h3, h4, h5, h6, h7, h8, h9, h10, h11⟩ := h
  have hvm := hW.alike
  have hq : ∀ a : Nat, a < s.heap.size → ¬ gA G a → U.heap[a]? = s.heap[a]? := fun a a1 a2 => by rw [hU]; exact hS.2.1 a a1 a2
  exact ⟨va_K.moved hvm h1, ⟨nst_warm hW h2.1, h2.2.moved hvm⟩, (h3.kept hq).moved hvm, (h4.kept hq).moved hvm, (h5.kept hq).moved hvm, (h6.kept hq).moved hvm, by rw [hU]; exact Nat.le_trans h7 hS.1, h8.moved hvm, h9.moved hvm, h10.moved hvm, thN_warm hW h11⟩
theorem Sx.same {G : GT} {s U : State} (h : Sx G s) (hU : U.heap = s.heap) (hv : U.vm = s.vm) : Sx G U :=
  h.moved (va_S.rf (A := gA G)) hU (by rw [hv]; exact State.WarmedH.refl s)
theorem blind {G : GT} {av : List AV} {μ : Mem} : FrameBlind (PcC G av μ) := by
  intro a U g mk h
  obtain ⟨h1, h0, h2, h3⟩ := h
  exact ⟨h1, h0, h2.moveS (U := U.calling g mk a) rfl (Vm.Alike.refl U.vm), h3.same rfl rfl⟩
