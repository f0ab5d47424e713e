/-! ===== the machine holds an abstract state; the abstract machine's steps as rules over W ===== -/
def fvl (ad : Nat → Nat) (μ : Mem) (o tc j : Nat) : Value := if tc = 2 then (if mR μ o j = 0 then .null else .ref (ad (mR μ o j))) else .int (Int32.ofInt (mD μ o j))
def flds (ad : Nat → Nat) (μ : Mem) (o k : Nat) : List Value := (List.range (clN k)).map (fun j => fvl ad μ o (tcd (clT k j).2.2.1) j)
def fav (μ : Mem) (o tc j : Nat) : AV := if tc = 2 then vr (mR μ o j) else vi (mD μ o j)
theorem fav_V (ad : Nat → Nat) (μ : Mem) (o tc j : Nat) : toV ad (fav μ o tc j) = fvl ad μ o tc j := by
  unfold fav fvl
  split <;> rfl
theorem flds_at {ad : Nat → Nat} {μ : Mem} {o k j : Nat} (h : j < clN k) : (flds ad μ o k)[j]? = some (fvl ad μ o (tcd (clT k j).2.2.1) j) := by
  unfold flds
  rw [List.getElem?_map, List.getElem?_range h]
  rfl
def ent (G : GT) (μ : Mem) (o : Nat) : va_E :=
  if mK μ o < 20 then .inr (mK μ o - 1, flds (gad G) μ o (mK μ o))
  else if mK μ o = 21 then .inl (gcy G 1, mN μ o, .inr (.inl (fun j => Int64.ofInt (mD μ o j))))
  else if mK μ o < 25 then .inl (gcy G (mK μ o - 20), mN μ o, .inl (fun j => Int32.ofInt (mD μ o j)))
  else .inl (gcy G (mK μ o - 20), mN μ o, .inr (.inr (.inr (.inr (fun j => if mR μ o j = 0 then none else some (gad G (mR μ o j)))))))
def Rp (G : GT) (μ : Mem) (s : State) (H : Heap) (locs : List Loc) : Prop :=
  (∀ o, mK μ o ≠ 0 → mK μ o ≠ 40 → 4 ≤ o ∧ va_at (gD G) vwCl (gad G o, ent G μ o) H) ∧
  (∀ o, mK μ o = 40 → gad G o < gB G ∧ va_X (gad G o) (mN μ o) (fun j => Int32.ofInt (mD μ o j)) s H) ∧
  va_S (gA G) s.heap H locs ∧
  (mX μ ≠ 0 → 4 ≤ mX μ ∧ H.size = gad G (mX μ) ∧ ∀ o, mX μ ≤ o → mK μ o = 0) ∧
  (∀ o j, (mK μ o = 21 → r64 (mD μ o j)) ∧ (mK μ o ≠ 21 → r32 (mD μ o j))) ∧ (∀ o, mN μ o < 2147483648)
def thNames : List String := ["java/lang/RuntimeException", "java/lang/Exception"]
def thAt : List Cond := vx_at0 "CoffeeThatSlops" thC "java/util/NoSuchElementException" thNames
def thN : List Cond := thAt.filter (fun w => !goodWord w)
def va_AOB (U : State) : Prop := (Cond.arrayOver (.array .byte)).before #[] U = true
theorem va_AOB.moved {u U : State} (hvm : u.vm.Alike U.vm) (h : va_AOB u) : va_AOB U := Jvm.Stand.arrayOver_alikeB hvm h
def Sx (G : GT) (U : State) : Prop :=
  va_K (gD G) vwCl (gtys G) U ∧ ((∀ w ∈ nstW, va_Nw w U) ∧ va_AOB U) ∧ va_Z "CoffeeThatSlops" "LEAST_SETTINGS" "[I" (.ref (gx G 2)) (gA G) U U.heap ∧ va_Z "CoffeeThatSlops" "MOST_SETTINGS" "[I" (.ref (gx G 3)) (gA G) U U.heap ∧
  vx_Zq Bundle.tN "UNASSIGNED_STACK" Bundle.steD (gA G) U U.heap ∧ vx_Zq Bundle.tN "SUPPRESSED_SENTINEL" Bundle.listD (gA G) U U.heap ∧ gB G ≤ U.heap.size ∧
  va_AO "CoffeeThatSlops$State" U ∧ va_AO "CoffeeThatSlops$Walk" U ∧ va_AO "CoffeeThatSlops$Law" U ∧ (∀ w ∈ thN, va_Nw w U)
def Cx (d : Nat) (M : MI) (G : GT) (p : Program) (l : Launch) (R : Room) (s : State) (m : MethodId) (args : Array Value) (meth : Method) (c : Code) : Prop :=
  p.tables.exec = Jvm.exec ∧ c.code = mcd M ∧ c.maxLocals = mml M ∧ s.vm.findClass (onm (mow M)) = some m.cls ∧ (∀ w ∈ bigW, w.before args s = true) ∧ Sx G s ∧
  d + 12 ≤ R.frames ∧ 60 * d + 200 ≤ R.locals ∧ meth.locks = false ∧ meth.sig.returnType = mrt M ∧ (mkd M = 1 → meth.name = "<init>") ∧ l.stackTraces = false ∧ c.exceptionTable.toList = tableOf (mhh M)
def isNRef (t : Option FieldType) : Bool := match t with
  | some (.object _) => true
  | some (.array _) => true
  | _ => false
def atE (M : MI) (res : Option (Option AV)) (pc : Nat) : Prop := match res with
  | some none => decode (mcd M) pc = .ok (.return_, 1) ∧ mrt M = none
  | some (some (.inl x)) => decode (mcd M) pc = .ok (.ireturn, 1) ∧ (mrt M = some .int ∨ (mrt M = some .boolean ∧ (x = 0 ∨ x = 1)))
  | some (some (.inr (.inl _))) => decode (mcd M) pc = .ok (.lreturn, 1) ∧ mrt M = some .long
  | some (some (.inr (.inr _))) => decode (mcd M) pc = .ok (.areturn, 1) ∧ isNRef (mrt M) = true
  | none => mow M = 9 ∧ mhh M = [] ∧ decode (mcd M) pc = .ok (.new thK, 3) ∧ decode (mcd M) (pc + 3) = .ok (.dup, 1) ∧ decode (mcd M) (pc + 4) = .ok (.invokespecial thC, 3) ∧ decode (mcd M) (pc + 7) = .ok (.athrow, 1)
def stE (G : GT) (res : Option (Option AV)) : List Value := match res with
  | some (some v) => [toV (gad G) v]
  | _ => []
def thr1 (res : Option (Option AV)) : Nat := match res with
  | none => 1
  | _ => 0
def Wp (d bc bs : Nat) (M : MI) (pc : Nat) (ls : List (Option AV)) (st : List AV) (μ : Mem) (Q : Option (Option AV) → Mem → Prop) : Prop :=
  ∀ (p : Program) (l : Launch) (e : Env) (R : Room) (s : State) (m : MethodId) (args : Array Value) (below : List Frame) (meth : Method) (c : Code) (H : Heap) (locs : List Loc) (cells slots : Nat) (Qf : State → Prop) (G : GT) (lm : Array Slot),
    Cx d M G p l R s m args meth c → Rp G μ s H locs → LR (gad G) ls (mml M) lm → oks st → cells + bc ≤ R.cells → slots + bs ≤ R.slots →
    (∀ (res : Option (Option AV)) (μ' : Mem) (H' : Heap) (locs' : List Loc) (cells' slots' pc' : Nat) (lm' : Array Slot), Q res μ' → atE M res pc' → (∀ v, res = some (some v) → okv v) → Rp G μ' s H' locs' → lm'.size = mml M → cells' + thr1 res ≤ R.cells → slots' + 6 * thr1 res ≤ R.slots →
      W p l e R s m args below meth c H' locs' cells' slots' Qf (F0 m pc' lm' (stE G res))) →
    W p l e R s m args below meth c H locs cells slots Qf (F0 m pc lm (st.map (toV (gad G))))
/-- a step that leaves memory and locals -/
theorem Wp.step {d bc bs : Nat} {M : MI} {pc pc' : Nat} {ls : List (Option AV)} {st st' : List AV} {μ : Mem} {Q : Option (Option AV) → Mem → Prop}
    (f : ∀ {p : Program} {l : Launch} {e : Env} {R : Room} {s : State} {m : MethodId} {args : Array Value} {below : List Frame} {meth : Method} {c : Code} {H : Heap} {locs : List Loc} {cells slots : Nat} {Qf : State → Prop} {G : GT} {lm : Array Slot},
      Cx d M G p l R s m args meth c → Rp G μ s H locs → LR (gad G) ls (mml M) lm → oks st → W p l e R s m args below meth c H locs cells slots Qf (F0 m pc' lm (st'.map (toV (gad G)))) → W p l e R s m args below meth c H locs cells slots Qf (F0 m pc lm (st.map (toV (gad G)))))
    (ho : ∀ {G : GT} {s : State} {H : Heap} {locs : List Loc} {lm : Array Slot}, Rp G μ s H locs → LR (gad G) ls (mml M) lm → oks st → oks st') (k : Wp d bc bs M pc' ls st' μ Q) : Wp d bc bs M pc ls st μ Q := by
  intro p l e R s m args below meth c H locs cells slots Qf G lm hC hR hL hs hc hsl hE
  exact f hC hR hL hs (k p l e R s m args below meth c H locs cells slots Qf G lm hC hR hL (ho hR hL hs) hc hsl hE)
theorem oks_i {x : Int} {st : List AV} (h : r32 x) (h2 : oks st) : oks (vi x :: st) := oks_c (v := vi x) h h2
theorem oks_l {x : Int} {st : List AV} (h : r64 x) (h2 : oks st) : oks (vl x :: st) := oks_c (v := vl x) h h2
theorem oks_r {r : Nat} {st : List AV} (h2 : oks st) : oks (vr r :: st) := oks_c (v := vr r) trivial h2
section PURE
variable {d bc bs : Nat} {M : MI} {pc : Nat} {ls : List (Option AV)} {st : List AV} {μ : Mem} {Q : Option (Option AV) → Mem → Prop}
theorem st_iconst {n : Int} (hd : decode (mcd M) pc = .ok (.iconst n, 1)) (hr : r32 n) (k : Wp d bc bs M (pc + 1) ls (vi n :: st) μ Q) : Wp d bc bs M pc ls st μ Q :=
  Wp.step (fun hC _ _ _ w => lv_iconst hC.1 hC.2.1 hd rfl w) (fun _ _ h => oks_i hr h) k
theorem st_bipush {n : Int} (hd : decode (mcd M) pc = .ok (.bipush n, 2)) (hv : (Int8.ofInt n).toInt32 = Int32.ofInt n) (hr : r32 n) (k : Wp d bc bs M (pc + 2) ls (vi n :: st) μ Q) : Wp d bc bs M pc ls st μ Q :=
  Wp.step (fun hC _ _ _ w => lv_bipush hC.1 hC.2.1 hd hv w) (fun _ _ h => oks_i hr h) k
theorem st_sipush {n : Int} (hd : decode (mcd M) pc = .ok (.sipush n, 3)) (hv : (Int16.ofInt n).toInt32 = Int32.ofInt n) (hr : r32 n) (k : Wp d bc bs M (pc + 3) ls (vi n :: st) μ Q) : Wp d bc bs M pc ls st μ Q :=
  Wp.step (fun hC _ _ _ w => lv_sipush hC.1 hC.2.1 hd hv w) (fun _ _ h => oks_i hr h) k
theorem st_iload_n {n : Fin 4} {i : Nat} {x : Int} (hd : decode (mcd M) pc = .ok (.iload_n n, 1)) (hi : (n : Nat) = i) (hl : ls[i]? = some (some (vi x))) (k : Wp d bc bs M (pc + 1) ls (vi x :: st) μ Q) : Wp d bc bs M pc ls st μ Q :=
  Wp.step (fun hC _ hL _ w => lv_iload_n hC.1 hC.2.1 hd hi (hL.at hl) w) (fun _ hL h => oks_c (hL.ok hl) h) k
theorem st_iload {i : Nat} {x : Int} (hd : decode (mcd M) pc = .ok (.iload i, 2)) (hl : ls[i]? = some (some (vi x))) (k : Wp d bc bs M (pc + 2) ls (vi x :: st) μ Q) : Wp d bc bs M pc ls st μ Q :=
  Wp.step (fun hC _ hL _ w => lv_iload hC.1 hC.2.1 hd (hL.at hl) w) (fun _ hL h => oks_c (hL.ok hl) h) k
theorem st_lload_n {n : Fin 4} {i : Nat} {x : Int} (hd : decode (mcd M) pc = .ok (.lload_n n, 1)) (hi : (n : Nat) = i) (hl : ls[i]? = some (some (vl x))) (k : Wp d bc bs M (pc + 1) ls (vl x :: st) μ Q) : Wp d bc bs M pc ls st μ Q :=
  Wp.step (fun hC _ hL _ w => lv_lload_n hC.1 hC.2.1 hd hi (hL.at hl) w) (fun _ hL h => oks_c (hL.ok hl) h) k
theorem st_lload {i : Nat} {x : Int} (hd : decode (mcd M) pc = .ok (.lload i, 2)) (hl : ls[i]? = some (some (vl x))) (k : Wp d bc bs M (pc + 2) ls (vl x :: st) μ Q) : Wp d bc bs M pc ls st μ Q :=
  Wp.step (fun hC _ hL _ w => lv_lload hC.1 hC.2.1 hd (hL.at hl) w) (fun _ hL h => oks_c (hL.ok hl) h) k
theorem st_aload_n {n : Fin 4} {i r : Nat} (hd : decode (mcd M) pc = .ok (.aload_n n, 1)) (hi : (n : Nat) = i) (hl : ls[i]? = some (some (vr r))) (k : Wp d bc bs M (pc + 1) ls (vr r :: st) μ Q) : Wp d bc bs M pc ls st μ Q := by
  refine Wp.step (fun {p l e R s m args below meth c H locs cells slots Qf G lm} hC _ hL _ w => ?_) (fun _ hL h => oks_c (hL.ok hl) h) k
  by_cases e : r = 0
  · have h1 := hL.at hl
    subst e
    exact lv_aload_nN hC.1 hC.2.1 hd hi h1 w
  · have h1 := hL.at hl
    have e2 : toV (gad G) (vr r) = .ref (gad G r) := if_neg e
    rw [e2] at h1
    rw [List.map_cons, e2] at w
    exact lv_aload_n hC.1 hC.2.1 hd hi h1 w
theorem st_aload {i r : Nat} (hd : decode (mcd M) pc = .ok (.aload i, 2)) (hl : ls[i]? = some (some (vr r))) (k : Wp d bc bs M (pc + 2) ls (vr r :: st) μ Q) : Wp d bc bs M pc ls st μ Q := by
  refine Wp.step (fun {p l e R s m args below meth c H locs cells slots Qf G lm} hC _ hL _ w => ?_) (fun _ hL h => oks_c (hL.ok hl) h) k
  by_cases e : r = 0
  · have h1 := hL.at hl
    subst e
    exact lv_aloadN hC.1 hC.2.1 hd h1 w
  · have h1 := hL.at hl
    have e2 : toV (gad G) (vr r) = .ref (gad G r) := if_neg e
    rw [e2] at h1
    rw [List.map_cons, e2] at w
    exact lv_aload hC.1 hC.2.1 hd h1 w
theorem st_null (hd : decode (mcd M) pc = .ok (.aconst_null, 1)) (k : Wp d bc bs M (pc + 1) ls (vr 0 :: st) μ Q) : Wp d bc bs M pc ls st μ Q :=
  Wp.step (fun hC _ _ _ w => lv_null hC.1 hC.2.1 hd w) (fun _ _ h => oks_r h) k
theorem st_iadd {x y : Int} (hd : decode (mcd M) pc = .ok (.iadd, 1)) (k : Wp d bc bs M (pc + 1) ls (vi (w32 (x + y)) :: st) μ Q) : Wp d bc bs M pc ls (vi y :: vi x :: st) μ Q :=
  Wp.step (fun hC _ _ _ w => lv_iadd hC.1 hC.2.1 hd (by rw [i_add]; exact w)) (fun _ _ h => oks_i (w32_r _) (oks_t (oks_t h))) k
theorem st_isub {x y : Int} (hd : decode (mcd M) pc = .ok (.isub, 1)) (k : Wp d bc bs M (pc + 1) ls (vi (w32 (x - y)) :: st) μ Q) : Wp d bc bs M pc ls (vi y :: vi x :: st) μ Q :=
  Wp.step (fun hC _ _ _ w => lv_isub hC.1 hC.2.1 hd (by rw [i_sub]; exact w)) (fun _ _ h => oks_i (w32_r _) (oks_t (oks_t h))) k
theorem st_imul {x y : Int} (hd : decode (mcd M) pc = .ok (.imul, 1)) (k : Wp d bc bs M (pc + 1) ls (vi (w32 (x * y)) :: st) μ Q) : Wp d bc bs M pc ls (vi y :: vi x :: st) μ Q :=
  Wp.step (fun hC _ _ _ w => lv_imul hC.1 hC.2.1 hd (by rw [i_mul]; exact w)) (fun _ _ h => oks_i (w32_r _) (oks_t (oks_t h))) k
theorem st_idiv {x y : Int} (hd : decode (mcd M) pc = .ok (.idiv, 1)) (hy : y ≠ 0) (k : Wp d bc bs M (pc + 1) ls (vi (w32 (x.tdiv y)) :: st) μ Q) : Wp d bc bs M pc ls (vi y :: vi x :: st) μ Q :=
  Wp.step (fun hC _ _ h w => lv_idiv hC.1 hC.2.1 hd (i_ne0 (oks_h h) hy) (by rw [i_div (oks_h (oks_t h)) (oks_h h)]; exact w)) (fun _ _ h => oks_i (w32_r _) (oks_t (oks_t h))) k
theorem st_irem {x y : Int} (hd : decode (mcd M) pc = .ok (.irem, 1)) (hy : y ≠ 0) (k : Wp d bc bs M (pc + 1) ls (vi (x.tmod y) :: st) μ Q) : Wp d bc bs M pc ls (vi y :: vi x :: st) μ Q :=
  Wp.step (fun hC _ _ h w => lv_irem hC.1 hC.2.1 hd (i_ne0 (oks_h h) hy) (by rw [i_rem (oks_h (oks_t h)) (oks_h h) hy]; exact w)) (fun _ _ h => oks_i (tmod_r (oks_h (oks_t h)) (oks_h h) hy) (oks_t (oks_t h))) k
theorem st_ineg {x : Int} (hd : decode (mcd M) pc = .ok (.ineg, 1)) (k : Wp d bc bs M (pc + 1) ls (vi (w32 (-x)) :: st) μ Q) : Wp d bc bs M pc ls (vi x :: st) μ Q :=
  Wp.step (fun hC _ _ _ w => lv_ineg hC.1 hC.2.1 hd (by rw [i_neg]; exact w)) (fun _ _ h => oks_i (w32_r _) (oks_t h)) k
end PURE
