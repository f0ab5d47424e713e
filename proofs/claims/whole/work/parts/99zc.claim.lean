/-! THE CLAIM OUT OF ONE WALK OF THE LAW'S BODY. Your part is whole_start (and what it stands on); all else here is the same for every law, but numbers. -/
def R_law : String := "CoffeeThatSlopsLaw"
def lw_P (b : Addr) (xs : List Int32) (args : Array Value) (s : State) : Prop := args = #[.ref b] ∧ s.IntsAt b xs ∧ xs.length ≤ 2560 ∧ (Jvm.Cond.and given_1 narrow_1).before args s = true
def lw_Q (_ : Array Value) (s : State) (o : Outcome) (t : State) : Prop := o = .returned (some (.int 1)) ∧ Framed s o t [] 601024 7293033
def lw_Z (below : List Frame) (a : Array Value) (s : State) : State → Prop := fun t => ∃ o, t.status = .running ∧ Ended t below o ∧ lw_Q a s o t
/-- the law's own end, with 1 on the stack, nothing written that was there before, its room as the claim has it -/
theorem lw_ret {p : Program} {l : Launch} {e : Jvm.Env} {s : State} {m : MethodId} {below : List Frame} {meth : Method} {c : Code} {b : Nat} (hx : p.tables.exec = Jvm.exec) (hb : c.code = code) (hr : meth.sig.returnType = ret) (hlocks : meth.locks = false) {pc : Nat} {H : Heap} {ls : Array Slot} (hdg : decode code pc = .ok (.ireturn, 1)) : W p l e room_1 s m #[Value.ref b] below meth c H [] 601024 7293033 (lw_Z below #[Value.ref b] s) (F0 m pc ls [.int 1]) := by
  intro T hT X
  obtain ⟨fs, hret, hrun, hended, hW, hframe⟩ := X.leave (v := some (.int 1)) (hlocks := hlocks) (fun h => by rw [hr] at h; cases h)
  have hmeth' : T.vm.method? m = some meth := X.method'
  refine ⟨T.setFrames fs, ?_, .returned (some (.int 1)), hrun, hended, rfl, ⟨_, rfl⟩, hW, hframe⟩
  jvm_step X.here [X.here.top, hx, hb, hdg, hmeth', hr, ret, narrow_b1]
  (try refine ⟨rfl, ?_⟩); (try refine ⟨rfl, ?_⟩)
  first | (intro acts; rw [hret _ acts rfl rfl rfl]) | rw [hret _ _ rfl rfl rfl]
  exact Steps.refl _
/-- what holds at the law's entry: the machine, the code, the tables' words (any of lw_tbl by 'hts w (by decide +kernel)'), the script of L ints xs at the cell b, what the Statement gives of the start (any of its parts by flat_of_before) -/
def lw_At (p : Program) (s : State) (m : MethodId) (meth : Method) (c : Code) (b L : Nat) (xs : Nat → Int32) : Prop :=
  p.tables.exec = Jvm.exec ∧ c.code = code ∧ meth.sig.returnType = ret ∧ c.maxLocals = 8 ∧ s.vm.findClass R_law = some m.cls ∧ (∀ w ∈ lw_tbl, w.before #[Value.ref b] s = true) ∧ va_X b L xs s s.heap ∧ b < s.heap.size ∧ meth.locks = false ∧ c.exceptionTable.toList = [] ∧ (Jvm.Cond.and given_1 narrow_1).before #[Value.ref b] s = true
theorem ab_spec {args : Array Value} {s : State} (h : (Cond.arrayOver (.array .byte)).before args s = true) : ∃ (c : ClassId) (k : Class) (comp : ClassId), s.vm.classes[c]? = some k ∧ k.kind = .array comp (.array .byte) ∧ s.vm.findClass ("[" ++ (FieldType.array .byte).toString) = some c := by
  have h : (Cond.arrayOver (.array .byte)).holds args s none s [] = true := h
  simp only [Cond.holds, Cond.value, beq_iff_eq] at h
  cases hc : s.vm.findClass (FieldType.array .byte).toString with
  | none => simp [hc] at h
  | some comp =>
    simp only [hc, Option.bind_some, Option.bind_eq_some_iff, Option.map_eq_some_iff] at h
    obtain ⟨c, hi, k, hk, hb⟩ := h
    cases hkind : k.kind with
    | array component ty =>
      rw [hkind] at hb
      simp at hb
      exact ⟨c, k, component, hk, by rw [hkind, hb.1], hb.2⟩
    | _ => rw [hkind] at hb; simp at hb
theorem ac_K {args : Array Value} {s : State} {ty : FieldType} (h : (Cond.arrayClass ty).before args s = true) : ∃ c : ClassId, ArrOfT s c ty ∧ s.vm.findClass ("[" ++ ty.toString) = some c := by
  obtain ⟨c, k, comp, h1, h2, h3⟩ := Cond.arrayClass_spec h
  exact ⟨c, fun n z => ⟨(fun _ h => by cases h), k, h2, comp, h3⟩, h1⟩
theorem ao_K {args : Array Value} {s : State} {C : String} (h : (Cond.arrayOver (.object C)).before args s = true) : ∃ c : ClassId, ArrOfT s c (.object C) ∧ va_RA s c (.object C) := by
  obtain ⟨comp, c, k, h1, -, h3, h4, h5⟩ := Cond.arrayOver_spec h
  exact ⟨c, fun n z => ⟨(fun _ h => by cases h), k, h3, comp, h4⟩, k, comp, h3, h4, h1, h5⟩
theorem ab_K {args : Array Value} {s : State} (h : (Cond.arrayOver (.array .byte)).before args s = true) : ∃ c : ClassId, ArrOfT s c (.array .byte) ∧ va_RA s c (.array .byte) := by
  obtain ⟨c, k, comp, h2, h3, h4⟩ := ab_spec h
  exact ⟨c, fun n z => ⟨(fun _ h => by cases h), k, h2, comp, h3⟩, h4⟩
theorem len_lt {args : Array Value} {s : State} {tm : Term} {v : Value} (hl : (Term.length tm).eval args s none [] s = some v) : ∃ (b : Addr) (cell : Cell), tm.eval args s none [] s = some (.ref b) ∧ s.arrayAt? b = some cell ∧ cell.slots.size < 2147483648 := by
  obtain ⟨b, cell, ht, harr, -⟩ := Term.length_spec hl
  refine ⟨b, cell, ht, harr, ?_⟩
  simp only [Term.eval, ht, harr, Option.bind_eq_bind, Option.bind_some] at hl
  by_cases hlt : cell.slots.size < 2147483648
  · exact hlt
  · simp [hlt] at hl
theorem cl_inst : ∀ k, 1 ≤ k → k ≤ 11 → Cond.instantiable (clC k) (clN k) ∈ bigW := k11 ⟨by decide +kernel, by decide +kernel, by decide +kernel, by decide +kernel, by decide +kernel, by decide +kernel, by decide +kernel, by decide +kernel, by decide +kernel, by decide +kernel, by decide +kernel⟩
/-- a static table of seven ints -/
theorem xof7 {args : Array Value} {s : State} {C n : String} {f : Nat → Int32} (harr : (Cond.arrayOf (.static C n "[I") .int).before args s = true) (hlen : (Cond.eq (.length (.static C n "[I")) (.int 7)).before args s = true)
    (hel : ∀ j : Nat, j < 7 → (Cond.eq (.elem (.static C n "[I") (.int (Int32.ofNat j))) (.int (f j))).before args s = true) : ∃ t : Nat, (Term.static C n "[I").eval args s none [] s = some (.ref t) ∧ va_X t 7 f s s.heap ∧ t < s.heap.size := by
  have hl := va_eqt hlen
  obtain ⟨t, ht, cell, h1, h2, h3, h4, h5, h6, -⟩ := va_Tof (A := fun q => s.heap.size ≤ q) (N := 7) (f := fun j => .int (f j)) (by decide) harr hl (fun j hj => va_eqt (hel j hj)) (fun a ha => Nat.not_le.mpr ha)
  have hsz : cell.slots.size < 2147483648 := by
    obtain ⟨b, cell', ht', harr', z⟩ := len_lt hl
    cases ht.symm.trans ht'
    obtain ⟨hc', -, -, -⟩ := State.arrayAt?_spec harr'
    cases h1.symm.trans hc'
    exact z
  have e7 : cell.slots.size = 7 := by
    have q := congrArg Int32.toInt h5
    have q1 : cell.slots.size.toInt32.toInt = (cell.slots.size : Int) := Int32.toInt_ofNat_small hsz
    have q2 : (Int32.ofNat 7).toInt = 7 := by decide
    rw [q1, q2] at q
    omega
  exact ⟨t, ht, ⟨cell, h1, h2, h3, e7, h6⟩, (Array.getElem?_eq_some_iff.mp h1).1⟩
def leastF : Nat → Int32 := fun j => if j = 0 then 1 else 0
def mostF : Nat → Int32 := fun j => if j = 0 then 16 else if j = 1 then 50 else if j = 2 then 9 else if j = 3 then 20 else if j = 4 then 100 else if j = 5 then 20 else 3
theorem whole_start {p : Program} {e : Jvm.Env} {s : State} {m : MethodId} {below : List Frame} {meth : Method} {c : Code} (l : Launch) (hflags : l.flags = flags0) {b L : Nat} {xs : Nat → Int32} (hL : L ≤ 2560) (C0 : lw_At p s m meth c b L xs) : W p l e room_1 s m #[Value.ref b] below meth c s.heap [] 0 0 (lw_Z below #[Value.ref b] s) (entryFrame m ([Value.ref b] : List Value).toArray 8) := by
  obtain ⟨hx, hb, hr, hml, hown, hts, hX, hbl, hlocks, htab, hgv⟩ := id C0
  have hgw := flat_of_before _ hgv
  have nA : ∀ a : Nat, a < s.heap.size → ¬ (fun q : Nat => s.heap.size ≤ q) a := fun a ha => Nat.not_le.mpr ha
  have hbig : ∀ w ∈ bigW, w.before #[Value.ref b] s = true := fun w hw => hts w (List.mem_filter.mp hw).1
  have htr : l.stackTraces = false := by
    unfold Launch.stackTraces
    rw [hflags]
    decide
  -- the two tables of settings
  obtain ⟨t2, e2, X2, l2⟩ := xof7 (args := #[Value.ref b]) (s := s) (C := "CoffeeThatSlops") (n := "LEAST_SETTINGS") (f := leastF) (hgw _ (by decide +kernel)) (hgw _ (by decide +kernel)) (fun j hj => by
    match j, hj with
    | 0, _ => exact hgw _ (by decide +kernel)
    | 1, _ => exact hgw _ (by decide +kernel)
    | 2, _ => exact hgw _ (by decide +kernel)
    | 3, _ => exact hgw _ (by decide +kernel)
    | 4, _ => exact hgw _ (by decide +kernel)
    | 5, _ => exact hgw _ (by decide +kernel)
    | 6, _ => exact hgw _ (by decide +kernel))
  obtain ⟨t3, e3, X3, l3⟩ := xof7 (args := #[Value.ref b]) (s := s) (C := "CoffeeThatSlops") (n := "MOST_SETTINGS") (f := mostF) (hgw _ (by decide +kernel)) (hgw _ (by decide +kernel)) (fun j hj => by
    match j, hj with
    | 0, _ => exact hgw _ (by decide +kernel)
    | 1, _ => exact hgw _ (by decide +kernel)
    | 2, _ => exact hgw _ (by decide +kernel)
    | 3, _ => exact hgw _ (by decide +kernel)
    | 4, _ => exact hgw _ (by decide +kernel)
    | 5, _ => exact hgw _ (by decide +kernel)
    | 6, _ => exact hgw _ (by decide +kernel))
  -- the classes
  obtain ⟨dC, dI, hKc⟩ : ∃ (dC : Nat → ClassId) (dI : Nat → Nat → Nat), ∀ (k : Nat) (q : vw_C), vwCl[k]? = some q → u_Kn s q.1 q.2.1 q.2.2 (dC k) (dI k) := by
    have one : ∀ k, ∃ (cC : ClassId) (iS : Nat → Nat), ∀ q : vw_C, vwCl[k]? = some q → u_Kn s q.1 q.2.1 q.2.2 cC iS := fun k => by
      by_cases hk : 1 ≤ k + 1 ∧ k + 1 ≤ 11
      · obtain ⟨cC, iS, h⟩ := u_known (C := clC (k + 1)) (T := clT (k + 1)) (N := clN (k + 1)) (n := clN (k + 1)) hbig (cl_in (k + 1) hk.1 hk.2) (hbig _ (cl_inst (k + 1) hk.1 hk.2))
        refine ⟨cC, iS, fun q hq => ?_⟩
        have e := cl_cl (k + 1) hk.1 hk.2
        rw [Nat.add_sub_cancel] at e
        cases e.symm.trans hq
        exact h
      · refine ⟨m.cls, fun _ => 0, fun q hq => ?_⟩
        have : k < 11 := (List.getElem?_eq_some_iff.mp hq).1
        omega
    exact ⟨fun k => (one k).choose, fun k => (one k).choose_spec.choose, fun k q hq => (one k).choose_spec.choose_spec q hq⟩
  obtain ⟨y0, A0, F0'⟩ := ac_K (hbig _ arr_words.1)
  obtain ⟨y1, A1, F1'⟩ := ac_K (hbig _ arr_words.2.1)
  obtain ⟨y2, A2, F2'⟩ := ac_K (hbig _ arr_words.2.2.1)
  obtain ⟨y3, A3, F3'⟩ := ac_K (hbig _ arr_words.2.2.2.1)
  obtain ⟨y4, A4, F4'⟩ := ac_K (hbig _ arr_words.2.2.2.2)
  have o5 : (Cond.arrayOver (.object "CoffeeThatSlops$State")).before #[Value.ref b] s = true := hts _ (by decide +kernel)
  have o6 : (Cond.arrayOver (.object "CoffeeThatSlops$Walk")).before #[Value.ref b] s = true := hts _ (by decide +kernel)
  have o7 : (Cond.arrayOver (.object "CoffeeThatSlops$Law")).before #[Value.ref b] s = true := hts _ (by decide +kernel)
  have o8 : (Cond.arrayOver (.array .byte)).before #[Value.ref b] s = true := hts _ (by decide +kernel)
  obtain ⟨y5, A5, F5'⟩ := ao_K o5
  obtain ⟨y6, A6, F6'⟩ := ao_K o6
  obtain ⟨y7, A7, F7'⟩ := ao_K o7
  obtain ⟨y8, A8, F8'⟩ := ab_K o8
  let G : GT := ((dC, dI), (fun k => if k = 0 then y0 else if k = 1 then y1 else if k = 2 then y2 else if k = 3 then y3 else if k = 4 then y4 else if k = 5 then y5 else if k = 6 then y6 else if k = 7 then y7 else y8), s.heap.size, (fun o => if o = 1 then b else if o = 2 then t2 else t3))
  have hK : va_K (gD G) vwCl (gtys G) s := by
    refine ⟨hKc, fun k q hq => ?_⟩
    have hk : k < 9 := (List.getElem?_eq_some_iff.mp hq).1
    match k, hk, hq with
    | 0, _, hq => cases hq; exact ⟨A0, F0'⟩
    | 1, _, hq => cases hq; exact ⟨A1, F1'⟩
    | 2, _, hq => cases hq; exact ⟨A2, F2'⟩
    | 3, _, hq => cases hq; exact ⟨A3, F3'⟩
    | 4, _, hq => cases hq; exact ⟨A4, F4'⟩
    | 5, _, hq => cases hq; exact ⟨A5, F5'⟩
    | 6, _, hq => cases hq; exact ⟨A6, F6'⟩
    | 7, _, hq => cases hq; exact ⟨A7, F7'⟩
    | 8, _, hq => cases hq; exact ⟨A8, F8'⟩
  have hSx : Sx G s := by
    refine ⟨hK, ⟨fun w hw => ?_, o8⟩, va_Zref (hts _ (by decide +kernel)) (hts _ (by decide +kernel)) e2 nA, va_Zref (hts _ (by decide +kernel)) (hts _ (by decide +kernel)) e3 nA, vx_Zqof (hts _ (by decide +kernel)) (hts _ (by decide +kernel)) (hgw _ (by decide +kernel)) nA, vx_Zqof (hts _ (by decide +kernel)) (hts _ (by decide +kernel)) (hgw _ (by decide +kernel)) nA, Nat.le_refl _, o5, o6, o7, fun w hw => ?_⟩
    · obtain ⟨q1, q2⟩ := List.mem_filter.mp hw
      refine va_Nw.of ?_ (hts w q1)
      unfold nestW at q2
      split at q2
      · rfl
      · cases q2
    · exact va_Nw.of (List.all_eq_true.mp thN_tab w hw) (by
        have hin : ∀ w ∈ thN, w ∈ lw_tbl := by decide +kernel
        exact hts w (hin w hw))
  have hC : Cx 221 mL_law G p l room_1 s m #[Value.ref b] meth c := ⟨hx, hb, hml, hown, hbig, hSx, by decide, by decide, hlocks, hr, fun h => (by cases h), htr, htab⟩
  obtain ⟨B, hB⟩ : ∃ B : DD, B = fun (o : Nat) (j : Int) => if o = 1 then (if 0 ≤ j ∧ j < L then (xs j.toNat).toInt else 0) else if o = 2 then (if 0 ≤ j ∧ j < 7 then (leastF j.toNat).toInt else 0) else if o = 3 then (if 0 ≤ j ∧ j < 7 then (mostF j.toNat).toInt else 0) else 0 := ⟨_, rfl⟩
  have hBr : ∀ o j, r32 (B o j) := fun o j => by
    have ri : ∀ x : Int32, r32 x.toInt := fun x => ⟨Int32.le_toInt x, Int32.toInt_lt x⟩
    rw [hB]
    dsimp only
    repeat' split
    all_goals first | exact ri _ | exact ⟨by decide, by decide⟩
  have hRp : Rp G (BM L 4 (fun _ _ => 0) B) s s.heap [] := by
    have k4 : ∀ o, Kx 4 o ≠ 0 → o = 1 ∨ o = 2 ∨ o = 3 := fun o ho => by
      by_cases c4 : o < 4
      · by_cases c0 : o = 0
        · rw [c0] at ho
          exact absurd rfl ho
        · omega
      · unfold Kx at ho
        rw [if_neg c4] at ho
        exact absurd rfl ho
    refine ⟨fun o h0 h40 => ?_, fun o h40 => ?_, va_S.rf, fun _ => ⟨Nat.le_refl 4, rfl, fun o ho => if_neg (by have : 4 ≤ o := ho; omega)⟩, fun o j => ⟨fun h => ?_, fun _ => hBr o j⟩, fun o => ?_⟩
    · have q := k4 o h0
      rcases q with rfl | rfl | rfl <;> exact absurd rfl h40
    · have q := k4 o (by intro z; have h40 : Kx 4 o = 40 := h40; rw [z] at h40; cases h40)
      have xe : ∀ {t n : Nat} {f : Nat → Int32} {o : Nat}, va_X t n f s s.heap → (∀ j : Nat, j < n → B o (j : Int) = (f j).toInt) → va_X t n (fun j => Int32.ofInt (B o (j : Int))) s s.heap := by
        rintro t n f o ⟨scr, z1, z2, z3, z4, z5⟩ hf
        refine ⟨scr, z1, z2, z3, z4, fun j hj => ?_⟩
        show scr.slots[j]? = some (.int (Int32.ofInt (B o (j : Int))))
        rw [z5 j hj, hf j hj, Int32.ofInt_toInt]
      rcases q with rfl | rfl | rfl
      · exact ⟨hbl, xe (n := L) (o := 1) hX (fun j hj => by rw [hB]; show (if 0 ≤ (j : Int) ∧ (j : Int) < L then (xs (j : Int).toNat).toInt else 0) = _; rw [if_pos (by omega)]; rfl)⟩
      · exact ⟨l2, xe (n := 7) (o := 2) X2 (fun j hj => by rw [hB]; show (if 0 ≤ (j : Int) ∧ (j : Int) < 7 then (leastF (j : Int).toNat).toInt else 0) = _; rw [if_pos (by omega)]; rfl)⟩
      · exact ⟨l3, xe (n := 7) (o := 3) X3 (fun j hj => by rw [hB]; show (if 0 ≤ (j : Int) ∧ (j : Int) < 7 then (mostF (j : Int).toNat).toInt else 0) = _; rw [if_pos (by omega)]; rfl)⟩
    · have h : Kx 4 o = 21 := h
      have q := k4 o (by rw [h]; decide)
      rcases q with rfl | rfl | rfl <;> cases h
    · show Nx L 4 o < 2147483648
      unfold Nx
      split
      · have q : o = 0 ∨ o = 1 ∨ o = 2 ∨ o = 3 := by omega
        rcases q with rfl | rfl | rfl | rfl
        · show (0 : Nat) < _
          decide
        · show L < _
          omega
        · show (7 : Nat) < _
          decide
        · show (7 : Nat) < _
          decide
      · decide
  have hw := W_law (n1 := L) (B := B) (bc := 600000) (bs := 7000000) hL (by decide) (by decide) (fun j => w32_id (hBr 1 j).1 (hBr 1 j).2) (fun j j0 j6 => by
    have q : j = 0 ∨ j = 1 ∨ j = 2 ∨ j = 3 ∨ j = 4 ∨ j = 5 ∨ j = 6 := by omega
    rw [hB]
    rcases q with rfl | rfl | rfl | rfl | rfl | rfl | rfl <;> exact ⟨rfl, rfl⟩)
  have hE := LR.entry (ad := gad G) (av := [vr 1]) (n := 8) (by decide) (oks_r oks_nil)
  rw [lg_entry_eq]
  refine hw p l e room_1 s m #[Value.ref b] below meth c s.heap [] 0 0 (lw_Z below #[Value.ref b] s) G _ hC hRp hE oks_nil (by decide) (by decide) ?_
  rintro res μ' H' locs' cells' slots' pc' lm' ⟨x, rfl, rfl⟩ hat hok hR hz h1 h2
  have hf : ∀ q ∈ locs', s.heap.size ≤ q.base := hR.2.2.1.2.2
  refine va_forget hf (W.widen (k := 601024) (n := 7293033) h1 (by have h2 : slots' + 6 * 0 ≤ 7293033 := h2; omega) ?_)
  exact lw_ret hx hb hr hlocks hat.1
set_option maxHeartbeats 4000000 in
theorem lw_walk (l : Launch) (hflags : l.flags = flags0) (b : Addr) (xs : List Int32) : MetFree l x (headSpec (Jvm.Cond.code x code maxLocals ret :: tables_1) room_1) (lw_P b xs) (fun _ _ _ _ _ => True) lw_Q := by
  refine MetFree.of_bodyS (code := code) (maxLocals := maxLocals) (ret := ret) (by decide) ?_ ?_
  · intro args s m h hn
    obtain ⟨meth, c, h1, h2, h3, h4, h5, h6, -, -⟩ := Cond.code_spec hn (atoms_spec (ws := Jvm.Cond.code x code maxLocals ret :: tables_1) h _ List.mem_cons_self)
    exact ⟨meth, c, h1, h2, h3, h4, h5, h6⟩
  · intro p e s m args below meth c s₁ B hml0 hP _
    obtain ⟨rfl, hx, hbd, hgv⟩ := hP
    obtain ⟨scr, harrAt, hlist, hof, hsmall⟩ := hx
    obtain ⟨hcb, hkn, -, -⟩ := State.arrayAt?_spec harrAt
    have hown : s.vm.findClass R_law = some m.cls := findClass_of_methodNamed B.named
    have hts0 : ∀ c ∈ (Jvm.Cond.code x code maxLocals ret :: tables_1), c.before #[Value.ref b] s = true := atoms_spec (ws := Jvm.Cond.code x code maxLocals ret :: tables_1) B.pre
    have hts : ∀ w ∈ lw_tbl, w.before #[Value.ref b] s = true := k2_hts_sels lw_privs (fun w hw => hts0 w (List.mem_cons_of_mem _ hw)) lw_privs_ok
    have hml : c.maxLocals = 8 := B.maxLocals_eq (hts0 _ List.mem_cons_self)
    have X₀ : Stand p l e room_1 s m #[Value.ref b] below meth c s₁ [] 0 0 := Stand.of_body B
    have hh0 : s₁.heap = s.heap := by rw [B.state]; rfl
    have hsz : scr.slots.size = xs.length := by rw [← Array.length_toList, hlist, List.length_map]
    have hval : ∀ j : Nat, j < xs.length → scr.slots[j]? = some (.int (xs.getD j 0)) := fun j hj => by
      rw [← Array.getElem?_toList, hlist]
      simp [hj]
    have hbl : b < s.heap.size := (Array.getElem?_eq_some_iff.mp hcb).1
    have hX : va_X b xs.length (fun j => xs.getD j 0) s s.heap := ⟨scr, hcb, hof, hkn, hsz, hval⟩
    have K : W p l e room_1 s m #[Value.ref b] below meth c s₁.heap [] 0 0 (lw_Z below #[Value.ref b] s) (entryFrame m ([Value.ref b] : List Value).toArray 8) := by
      rw [hh0]
      have htab : c.exceptionTable.toList = [] := by
        obtain ⟨meth9, c9, h1, h2, -, -, -, -, h7, -⟩ := Cond.code_spec B.named (hts0 _ List.mem_cons_self)
        cases Option.some.inj (h1.symm.trans B.method)
        cases Option.some.inj (h2.symm.trans (Stand.of_body B).code)
        rw [Array.isEmpty_iff.mp h7]
      exact whole_start l hflags hbd ⟨B.exec, B.bytes, B.returns, hml, hown, hts, hX, hbl, B.notSynchronized, htab, hgv⟩
    obtain ⟨t, a1, o, b1, b2, b3⟩ := K s₁ rfl X₀
    exact ⟨t, o, a1, b1, b2, b3⟩
theorem lw_pre_spec {args : Array Value} {s : State} (h : (Jvm.Cond.and given_1 narrow_1).before args s = true) (hr : rest_1_c.before args s = true) : ∃ (b : Addr) (xs : List Int32), lw_P b xs args s := by
  have hs := flat_of_before _ h
  have hq := flat_of_before _ hr
  have hc : (Cond.count 1).before args s = true := hs _ (by decide +kernel)
  have harr : (Cond.arrayOf (.arg 0) .int).before args s = true := hs _ (by decide +kernel)
  have hle : (Cond.le (.length (.arg 0)) (.int 2560)).before args s = true := hs _ (by decide +kernel)
  have hlen : (Cond.isInt (.length (.arg 0))).before args s = true := hq _ (by decide +kernel)
  have hall : (Cond.all (.arg 0) (.isInt (.elem (.arg 0) (.index 0)))).before args s = true := hq _ (by decide +kernel)
  obtain ⟨b, xs, hb, hx⟩ := State.ints_of_pre rfl harr hlen hall
  have hsm : xs.length < 2 ^ 31 := hx.choose_spec.2.2.2
  have hev : (Term.length (.arg 0)).eval args s none [] s = some (.int xs.length.toInt32) := hx.length_eval hb
  have hv := Cond.le_ints hev (show (Term.int 2560).eval args s none [] s = some (.int 2560) from rfl)
  have hd : xs.length.toInt32 ≤ 2560 := by
    simpa [Cond.before, Cond.holds, hv] using hle
  have hN : xs.length ≤ 2560 := (Int32.ofNat_le_ofNat hsm (by decide)).mp (show Int32.ofNat xs.length ≤ Int32.ofNat 2560 from hd)
  exact ⟨b, xs, Cond.one_arg hc (show args[0]? = some (.ref b) from hb), hx, hN, h⟩
theorem lw_comes (l : Launch) (hflags : l.flags = flags0) : Comes l x (Jvm.Cond.code x code maxLocals ret :: tables_1) room_1 (fun tb e args s => Calls_1 tb e args s ∧ rest_1 tb e args s ∧ Pre_1 tb e args s)
    (fun _ _ args s o t => lw_Q args s o t) := by
  intro p e ha hc hk s m args below hf hfit hheap happ hpre
  obtain ⟨b, xs, hP⟩ := lw_pre_spec hpre.2.2 hpre.2.1
  obtain ⟨k, o, h1, h2, h3, hQ⟩ := lw_walk l hflags b xs p e ha hc hk s m args below hf ((Spec.applies_iff_loose hf).mp happ).1 hP trivial
  exact ⟨k, o, h1, h2, h3, hQ⟩
theorem lw_frame {s t : State} {o : Outcome} {args : Array Value} (h : Framed s o t [] 601024 7293033) :
    Framed s o t (fieldLocs frame_1_writes args s ++ arrayLocs frame_1_arrays args s ++ staticLocs frame_1_statics s) 601024 7293033 := h
theorem lw_limb (L : Cond) (hL : ∀ (args : Array Value) (s t : State), L.after args s (.returned (some (.int 1))) t = true) :
    ArmFor flags0 classFile x code maxLocals ret World_1 tables_1 room_1 Calls_1 rest_1 Pre_1
      (fun tb e a s o t => postC L tb e a s o t ∧ Framed s o t (fieldLocs frame_1_writes a s ++ arrayLocs frame_1_arrays a s ++ staticLocs frame_1_statics s) 601024 7293033) := by
  intro l hflags _ _ p e ha hc hk s m args below hf hfit hheap happ hpre
  obtain ⟨k, o, h1, h2, h3, rfl, hF⟩ := lw_comes l hflags p e ha hc hk s m args below hf hfit hheap happ hpre
  exact ⟨k, _, h1, h2, h3, hL args s _, lw_frame hF⟩
theorem i_vc : Claimed_1_1 ∧ Claimed_1_2 := ⟨lw_limb limb_1_1 (fun args s t => by simp [limb_1_1, Cond.after, Cond.holds, Cond.value]), lw_limb limb_1_2 (fun args s t => Cond.after_iff.mpr (by
  first | (rw [show limb_1_2 = Cond.eq .result (.int 1) from rfl, Cond.eq_ints (x := 1) (y := 1) rfl rfl]; simp; done) | (simp [limb_1_2, Cond.value, Term.eval]; done)))⟩
