/-! ===== a method's body gives its contract ===== -/
theorem mchk_in : ∀ (l : List MI) (k : List Nat), mchk l k = true → ∀ M ∈ l, ∃ q, okm M q = true
  | [], [], _, M, h => by cases h
  | [], _ :: _, h, _, _ => by cases h
  | _ :: _, [], h, _, _ => by cases h
  | N :: l, q :: k, h, M, hM => by
    unfold mchk at h
    rw [Bool.and_eq_true] at h
    rcases List.mem_cons.mp hM with e | e
    · rw [e]; exact ⟨q, h.1⟩
    · exact mchk_in l k h.2 M e
theorem mt_ok {M : MI} (h : M ∈ mtb) : (mnm M).cls = onm (mow M) ∧ plainFor (mnm M) = true ∧ (mnm M).cls ≠ "java/lang/invoke/MethodHandle" ∧ (mnm M).cls ≠ "java/lang/invoke/VarHandle" ∧ mml M ≤ 41 ∧ Cond.initialized (mnm M).cls ∈ bigW ∧ mwd M ∈ bigW := by
  obtain ⟨q, hq⟩ := mchk_in _ _ mtb_ok M h
  unfold okm at hq
  simp only [Bool.and_eq_true, decide_eq_true_eq] at hq
  obtain ⟨h1, h2, h3, h4, h5, h6⟩ := hq
  exact ⟨h1, h2, h3, h4, h5, okw_in h6, List.mem_filter.mpr ⟨mtc_in M h, mwd_good M⟩⟩
theorem mt_init : mtb.all (fun M => mkd M == 0 || decide ((mnm M).name = "<init>")) = true := by decide +kernel
theorem thAt_big : ∀ w ∈ thAt.filter goodWord, w ∈ bigW := by
  intro w hw
  have h1 : ∀ w ∈ thAt.filter goodWord, w ∈ lw_tbl := by decide +kernel
  exact List.mem_filter.mpr ⟨h1 w hw, (List.mem_filter.mp hw).2⟩
theorem th_link : Cond.classLink "CoffeeThatSlops" thK "java/util/NoSuchElementException" ∈ bigW := List.mem_filter.mpr ⟨by decide +kernel, rfl⟩
theorem th_ini : Cond.initialized "java/util/NoSuchElementException" ∈ bigW := List.mem_filter.mpr ⟨by decide +kernel, rfl⟩
theorem th_ot : ∀ w ∈ Cond.classLink "CoffeeThatSlops" thK "java/util/NoSuchElementException" :: Cond.initialized "java/util/NoSuchElementException" :: thAt, vx_ot w = true := by decide +kernel
theorem thN_tab : thN.all Cond.onTables = true := by decide +kernel
theorem va_Fof {G : GT} {s t : State} {H : Heap} {locs : List Loc} (h : va_S (gA G) s.heap H locs) (ht : t.heap = H) : va_F (gA G) s t := h.F ht
/-- what every end of a body gives -/
theorem end_ok {G : GT} {K : Option (Option AV) → Mem → Prop} {M : MI} {d mc ms : Nat} {p : Program} {l : Launch} {e : Env} {s : State} {m : MethodId} {args : Array Value} {below : List Frame} {meth : Method} {c : Code}
    (hC : Cx d M G p l (rmC d mc ms) s m args meth c) (res : Option (Option AV)) (μ' : Mem) (H' : Heap) (locs' : List Loc) (cells' slots' pc' : Nat) (lm' : Array Slot) (hK : K res μ') (hat : atE M res pc') (hok : ∀ v, res = some (some v) → okv v) (hR : Rp G μ' s H' locs') (hz : lm'.size = mml M) (h1 : cells' + thr1 res ≤ mc) (h2 : slots' + 6 * thr1 res ≤ ms) :
    W p l e (rmC d mc ms) s m args below meth c H' locs' cells' slots' (vx_MQ below (QcC G K) (XcC G K) args s mc ms (gA G)) (F0 m pc' lm' (stE G res)) := by
  obtain ⟨hx, hb, hml, hown, hts, hS, hfr, hlo, hlocks, hret, hinit, htr, htab⟩ := hC
  have hf : ∀ q ∈ locs', gA G q.base := hR.2.2.1.2.2
  have hend : ∀ t : State, t.heap = H' → s.WarmedH t.vm → Rp G μ' t t.heap [] ∧ va_F (gA G) s t := fun t ht hW => ⟨hR.moveS ht hW.alike, hR.2.2.1.F ht⟩
  rcases res with _ | _ | x | x | r
  · obtain ⟨h9, hh, d0, d3, d4, d7⟩ := hat
    rw [h9] at hown
    have ht0 : ∀ x ∈ c.exceptionTable.toList, covers x (pc' + 7) = false := by
      rw [htab, hh]
      intro x hx9
      cases hx9
    refine vx_throw0 (names := thNames) (own := "CoffeeThatSlops") (cls := "java/util/NoSuchElementException") (ik := thK) (ic := thC) hx hb htr hown (by decide +kernel) (by decide +kernel) (hts _ th_link) (hts _ th_ini) ?_ th_ot hS.2.2.2.2.1 hS.2.2.2.2.2.1 hR.2.2.1 (by rw [hml]; exact hz) d0 d3 d4 d7 ht0 ?_ ?_ h1 (by show slots' + 6 ≤ ms; have : slots' + 6 * 1 ≤ ms := h2; omega) hlocks ?_ hf h1 (by have : slots' + 6 * 1 ≤ ms := h2; omega)
    · refine vx_hat (B := thN) (fun w hw => hts _ (thAt_big w hw)) (fun w hw => hw) (fun w hw => ?_)
      exact va_Nw.use (List.all_eq_true.mp thN_tab w hw) (hS.2.2.2.2.2.2.2.2.2.2 w hw)
    · show 2 + 3 < d + 12
      omega
    · show (([] : List Value).map fun v => v.category).sum + (13 * (2 + 1) + 42) ≤ 60 * d + 200
      show 0 + 81 ≤ _
      omega
    · intro t hvm hz1 hq1
      obtain ⟨r1, r2, r3, r4, r5, r6⟩ := hR
      refine ⟨⟨rfl, μ', hK, fun o a1 a2 => ?_, fun o a1 => ?_, va_S.rf, fun z => absurd rfl z, r5, r6⟩, Nat.le_trans r3.1 hz1, fun q q1 q2 => ?_⟩
      · obtain ⟨b1, b2⟩ := r1 o a1 a2
        exact ⟨b1, b2.kept (hq1 _ b2.lt)⟩
      · obtain ⟨b1, b2⟩ := r2 o a1
        obtain ⟨scr, c1, c2⟩ := id b2
        exact ⟨b1, (b2.kept (hq1 _ (Array.getElem?_eq_some_iff.mp c1).1)).moved hvm⟩
      · rw [hq1 q (Nat.lt_of_lt_of_le q1 r3.1)]
        exact r3.2.1 q q1 q2
  · obtain ⟨hd, hr⟩ := hat
    refine W.widen (k := mc) (n := ms) (by exact h1) (by have : slots' + 6 * 0 ≤ ms := h2; omega) (vx_ret ?_)
    exact W.vret hx hb (hret.trans hr) (fun t ht hW => ⟨⟨none, μ', hK, rfl, fun v h => (by cases h), (hend t ht hW).1⟩, (hend t ht hW).2⟩) hf hd hlocks
  · obtain ⟨hd, hr⟩ := hat
    refine W.widen (k := mc) (n := ms) (by exact h1) (by have : slots' + 6 * 0 ≤ ms := h2; omega) (vx_ret ?_)
    rcases hr with hr | ⟨hr, hx01⟩
    · exact W.iret hx hb (hret.trans hr) (fun t ht hW => ⟨⟨some (vi x), μ', hK, rfl, fun v h => (by cases h; exact hok _ rfl), (hend t ht hW).1⟩, (hend t ht hW).2⟩) hf hd hlocks
    · exact W.zret hx hb (hret.trans hr) (nar_z hx01) (fun t ht hW => ⟨⟨some (vi x), μ', hK, rfl, fun v h => (by cases h; exact hok _ rfl), (hend t ht hW).1⟩, (hend t ht hW).2⟩) hf hd hlocks
  · obtain ⟨hd, hr⟩ := hat
    refine W.widen (k := mc) (n := ms) (by exact h1) (by have : slots' + 6 * 0 ≤ ms := h2; omega) (vx_ret ?_)
    exact W.lret hx hb (hret.trans hr) (fun t ht hW => ⟨⟨some (vl x), μ', hK, rfl, fun v h => (by cases h; exact hok _ rfl), (hend t ht hW).1⟩, (hend t ht hW).2⟩) hf hd hlocks
  · obtain ⟨hd, hr⟩ := hat
    refine W.widen (k := mc) (n := ms) (by exact h1) (by have : slots' + 6 * 0 ≤ ms := h2; omega) (vx_ret ?_)
    have hrt : ∃ rt, mrt M = some rt ∧ ((∃ n, rt = .object n) ∨ ∃ t, rt = .array t) := by
      cases hm : mrt M with
      | none => rw [hm] at hr; cases hr
      | some rt =>
        refine ⟨rt, rfl, ?_⟩
        rw [hm] at hr
        cases rt <;> first | exact Or.inl ⟨_, rfl⟩ | exact Or.inr ⟨_, rfl⟩ | cases hr
    obtain ⟨rt, e1, e2⟩ := hrt
    have hv : toV (gad G) (vr r) = .null ∨ ∃ a, toV (gad G) (vr r) = .ref a := by
      unfold toV
      dsimp only
      split
      · exact Or.inl rfl
      · exact Or.inr ⟨_, rfl⟩
    exact W.aret hx hb (hret.trans e1) e2 hv (fun t ht hW => ⟨⟨some (vr r), μ', hK, rfl, fun v h => (by cases h; exact trivial), (hend t ht hW).1⟩, (hend t ht hW).2⟩) hf hd hlocks
theorem Cl_of {d mc ms : Nat} {M : MI} {av : List AV} {μ : Mem} {K : Option (Option AV) → Mem → Prop} (hM : M ∈ mtb) (hlen : (avl av).length ≤ mml M) (h : Wp d mc ms M 0 (entl av (mml M)) [] μ K) : Cl d mc ms M av μ K := by
  intro l G hl
  obtain ⟨o1, o2, o3, o4, o5, o6, o7⟩ := mt_ok hM
  refine MetFree.of_bodySF (code := mcd M) (maxLocals := mml M) (ret := mrt M) o2 ?_ ?_
  · intro args s m h hn
    have hw := atoms_spec (ws := mwd M :: bigW) h _ List.mem_cons_self
    unfold mwd at hw
    split at hw
    · obtain ⟨meth, c, h1, h2, h3, h4, h5, h6, -, -⟩ := Cond.code_spec hn hw
      exact ⟨meth, c, h1, h2, h3, h4, h5, h6⟩
    · obtain ⟨m9, meth, c, hn9, h1, h2, h3, h4, -, h5, h6, -⟩ := Cond.codeWith_spec hw
      cases hn.symm.trans hn9
      exact ⟨meth, c, h1, h2, h3, h4, h5, h6⟩
  · intro p e s m args below meth c s₁ B hml hP _
    obtain ⟨rfl, ho, hR, hS⟩ := hP
    have hts := atoms_spec (ws := mwd M :: bigW) B.pre
    have hh0 : s₁.heap = s.heap := by rw [B.state]; rfl
    have htab : c.exceptionTable.toList = tableOf (mhh M) := by
      have hw := hts _ List.mem_cons_self
      unfold mwd at hw
      split at hw
      · rename_i he
        obtain ⟨meth9, c9, h1, h2, -, -, -, -, h7, -⟩ := Cond.code_spec B.named hw
        cases Option.some.inj (h1.symm.trans B.method)
        cases Option.some.inj (h2.symm.trans (Stand.of_body B).code)
        rw [Array.isEmpty_iff.mp h7, List.isEmpty_iff.mp he]
        rfl
      · exact vx_table (x := mnm M) B hw
    have hC : Cx d M G p l (rmC d mc ms) s m (av.map (toV (gad G))).toArray meth c := by
      refine ⟨B.exec, B.bytes, hml, ?_, fun w hw => hts w (List.mem_cons_of_mem _ hw), hS, Nat.le_refl _, Nat.le_refl _, B.notSynchronized, B.returns, fun hk => ?_, hl, htab⟩
      · rw [← o1]; exact findClass_of_methodNamed B.named
      · rw [(name_of_methodNamed B.named B.method).1]
        have := List.all_eq_true.mp mt_init M hM
        simp only [Bool.or_eq_true, beq_iff_eq, decide_eq_true_eq] at this
        rcases this with z | z
        · omega
        · exact z
    have hW := h p l e (rmC d mc ms) s m (av.map (toV (gad G))).toArray below meth c s.heap [] 0 0 (vx_MQ below (QcC G K) (XcC G K) (av.map (toV (gad G))).toArray s mc ms (gA G)) G _ hC hR (LR.entry hlen ho) oks_nil (by show 0 + mc ≤ mc; omega) (by show 0 + ms ≤ ms; omega)
      (fun res μ' H' locs' cells' slots' pc' lm' hK hat hok hR' hz h1 h2 => end_ok hC res μ' H' locs' cells' slots' pc' lm' hK hat hok hR' hz h1 h2)
    rw [show ([] : List AV).map (toV (gad G)) = [] from rfl, ← lg_entry_eq] at hW
    obtain ⟨t, a1, o, b1, b2, b3⟩ := hW s₁ hh0 (Stand.of_body B)
    exact ⟨t, o, a1, b1, b2, b3⟩
