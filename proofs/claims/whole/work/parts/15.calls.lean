/-! ===== calls ===== -/
def csum (st : List AV) : Nat := (st.map (fun v => if isL v = true then 2 else 1)).sum
theorem csum_V (ad : Nat → Nat) (st : List AV) : ((st.map (toV ad)).map fun v => v.category).sum = csum st := by
  unfold csum
  rw [List.map_map]
  congr 1
  apply List.map_congr_left
  intro v _
  exact cat_L ad v
theorem mtb_d : mX0_init ∈ mtb := by
  unfold mtb
  have h : mX0_init ∈ mtb_0 := by
    unfold mtb_0
    simp only [List.mem_cons, true_or, or_true]
  simp only [List.mem_append, h, true_or, or_true]
theorem mtb_get (x : Nat) : mtb.getD x mX0_init ∈ mtb := by
  rw [List.getD_eq_getElem?_getD]
  cases h : mtb[x]? with
  | none => exact mtb_d
  | some M => exact List.mem_of_getElem? h
theorem cal_e {o i kd na : Nat} {M' : MI} (h : cal o i = some (kd, na, M')) : ∃ (x : Nat) (ps : List Nat), M' = mtb.getD x mX0_init ∧ cchk (o, i, kd, na, x, ps) = true := by
  unfold cal at h
  rw [Option.map_eq_some_iff] at h
  obtain ⟨e, he, h2⟩ := h
  obtain ⟨o', i', kd', na', x, ps⟩ := e
  have hm := List.mem_of_find?_eq_some he
  have hp := List.find?_some he
  simp only [Bool.and_eq_true, beq_iff_eq] at hp
  obtain ⟨rfl, rfl⟩ := hp
  cases h2
  exact ⟨x, ps, rfl, List.all_eq_true.mp calt_ok _ hm⟩
theorem par_of {y : MethodName} {n : Nat} (h : par y n = true) : (parseMethodDescriptor y.desc).map (fun d => d.parameters.length) = some n := of_decide_eq_true h
theorem cal_0 {o i na : Nat} {M' : MI} (h : cal o i = some (0, na, M')) : M' ∈ mtb ∧ Cond.methodLink (onm o) i (mnm M') ∈ bigW ∧ Cond.instanceMethod (mnm M') ∈ bigW ∧ Cond.selects (mnm M').cls (mnm M') (mnm M') ∈ bigW ∧ 1 ≤ na ∧ par (mnm M') (na - 1) = true ∧ (mhh M').isEmpty = true := by
  obtain ⟨x, ps, rfl, hc⟩ := cal_e h
  refine ⟨mtb_get x, ?_⟩
  rcases ps with _ | ⟨p0, _ | ⟨p3, _ | ⟨p4, _ | ⟨_, _⟩⟩⟩⟩
  · cases hc
  · cases hc
  · cases hc
  · unfold cchk at hc
    simp only [Bool.and_eq_true, decide_eq_true_eq] at hc
    obtain ⟨h1, h2, h3, h4, h5, h6⟩ := hc
    exact ⟨okw_in h1, okw_in h2, okw_in h3, h4, h5, h6⟩
  · cases hc
theorem cal_1 {o i na : Nat} {M' : MI} (h : cal o i = some (1, na, M')) : M' ∈ mtb ∧ Cond.methodLink (onm o) i (mnm M') ∈ bigW ∧ Cond.static (mnm M') ∈ bigW ∧ par (mnm M') na = true ∧ (mhh M').isEmpty = true := by
  obtain ⟨x, ps, rfl, hc⟩ := cal_e h
  refine ⟨mtb_get x, ?_⟩
  rcases ps with _ | ⟨p0, _ | ⟨p3, _ | ⟨_, _⟩⟩⟩
  · cases hc
  · cases hc
  · unfold cchk at hc
    simp only [Bool.and_eq_true] at hc
    obtain ⟨h1, h2, h3, h4⟩ := hc
    exact ⟨okw_in h1, okw_in h2, h3, h4⟩
  · cases hc
theorem cal_8 {o i na : Nat} {M' : MI} (h : cal o i = some (8, na, M')) : M' ∈ mtb ∧ Cond.methodLink (onm o) i (mnm M') ∈ bigW ∧ Cond.static (mnm M') ∈ bigW ∧ par (mnm M') na = true ∧ (mhh M').isEmpty = false := by
  obtain ⟨x, ps, rfl, hc⟩ := cal_e h
  refine ⟨mtb_get x, ?_⟩
  rcases ps with _ | ⟨p0, _ | ⟨p3, _ | ⟨_, _⟩⟩⟩
  · cases hc
  · cases hc
  · unfold cchk at hc
    simp only [Bool.and_eq_true, Bool.not_eq_true'] at hc
    obtain ⟨h1, h2, h3, h4⟩ := hc
    exact ⟨okw_in h1, okw_in h2, h3, h4⟩
  · cases hc
theorem cal_2 {o i na : Nat} {M' : MI} (h : cal o i = some (2, na, M')) : M' ∈ mtb ∧ Cond.methodLink (onm o) i (mnm M') ∈ bigW ∧ Cond.instanceMethod (mnm M') ∈ bigW ∧ 1 ≤ na ∧ par (mnm M') (na - 1) = true ∧ (mhh M').isEmpty = true ∧ (mnm M').name = "<init>" ∧ mrt M' = none := by
  obtain ⟨x, ps, rfl, hc⟩ := cal_e h
  refine ⟨mtb_get x, ?_⟩
  rcases ps with _ | ⟨p0, _ | ⟨p3, _ | ⟨_, _⟩⟩⟩
  · cases hc
  · cases hc
  · unfold cchk at hc
    simp only [Bool.and_eq_true, decide_eq_true_eq] at hc
    obtain ⟨h1, h2, h3, h4, h5, h6, h7, -⟩ := hc
    exact ⟨okw_in h1, okw_in h2, h3, h4, h5, h6, h7⟩
  · cases hc
theorem cal_4 {o i na : Nat} {M' : MI} (h : cal o i = some (4, na, M')) : M' ∈ mtb ∧ Cond.methodLinkNest (onm o) i (mnm M') "CoffeeThatSlops" ∈ nstW ∧ Cond.static (mnm M') ∈ bigW ∧ par (mnm M') na = true ∧ (mhh M').isEmpty = true := by
  obtain ⟨x, ps, rfl, hc⟩ := cal_e h
  refine ⟨mtb_get x, ?_⟩
  rcases ps with _ | ⟨p0, _ | ⟨p3, _ | ⟨_, _⟩⟩⟩
  · cases hc
  · cases hc
  · unfold cchk at hc
    simp only [Bool.and_eq_true] at hc
    obtain ⟨h1, h2, h3, h4⟩ := hc
    exact ⟨onw_in h1, okw_in h2, h3, h4⟩
  · cases hc
theorem cal_5 {o i na : Nat} {M' : MI} (h : cal o i = some (5, na, M')) : M' ∈ mtb ∧ Cond.methodLinkNest (onm o) i (mnm M') "CoffeeThatSlops" ∈ nstW ∧ Cond.instanceMethod (mnm M') ∈ bigW ∧ 1 ≤ na ∧ par (mnm M') (na - 1) = true ∧ (mhh M').isEmpty = true ∧ (mnm M').name = "<init>" ∧ mrt M' = none := by
  obtain ⟨x, ps, rfl, hc⟩ := cal_e h
  refine ⟨mtb_get x, ?_⟩
  rcases ps with _ | ⟨p0, _ | ⟨p3, _ | ⟨_, _⟩⟩⟩
  · cases hc
  · cases hc
  · unfold cchk at hc
    simp only [Bool.and_eq_true, decide_eq_true_eq] at hc
    obtain ⟨h1, h2, h3, h4, h5, h6, h7, -⟩ := hc
    exact ⟨onw_in h1, okw_in h2, h3, h4, h5, h6, h7⟩
  · cases hc
theorem big_good {ws : List Cond} (h : ∀ w ∈ ws, w ∈ bigW) : GoodIn bigW ws := fun w hw => ⟨h w hw, good_of_word (List.mem_filter.mp (h w hw)).2⟩
theorem ws_good {M' : MI} (h : M' ∈ mtb) : GoodIn bigW (mwd M' :: bigW) := big_good (fun w hw => by
  rcases List.mem_cons.mp hw with e | e
  · rw [e]; exact (mt_ok h).2.2.2.2.2.2
  · exact e)
theorem onm_cl : ∀ k, k ≤ 10 → onm k = clC (k + 1) := by
  intro k hk
  rcases (by omega : k = 0 ∨ k = 1 ∨ k = 2 ∨ k = 3 ∨ k = 4 ∨ k = 5 ∨ k = 6 ∨ k = 7 ∨ k = 8 ∨ k = 9 ∨ k = 10) with rfl | rfl | rfl | rfl | rfl | rfl | rfl | rfl | rfl | rfl | rfl <;> rfl
/-- a call that ran: what comes behind it -/
theorem run_go {d mc ms : Nat} {M : MI} {G : GT} {μ : Mem} {K : Option (Option AV) → Mem → Prop} {p : Program} {l : Launch} {e : Env} {R : Room} {s : State} {m : MethodId} {args : Array Value} {below : List Frame} {meth : Method} {c : Code} {H : Heap} {locs : List Loc} {cells slots : Nat} {Qf : State → Prop} {pc : Nat} {lm : Array Slot} {st0 : List Value} {st : List AV} {a : Array Value}
    (hC : Cx d M G p l R s m args meth c) (hR : Rp G μ s H locs)
    (hrun : vx_Run p l e R s m args below meth c H locs cells slots mc ms (F0 m pc lm st0) (st.map (toV (gad G))) (QcC G K a) (XcC G K) (gA G))
    (kr : ∀ (r : Option AV) (μ' : Mem) (H1 : Heap) (locs1 : List Loc), K (some r) μ' → (∀ v, r = some v → okv v) → Rp G μ' s H1 locs1 → W p l e R s m args below meth c H1 locs1 (cells + mc) (slots + ms) Qf (F0 m (pc + 3) lm ((r.toList ++ st).map (toV (gad G)))))
    (kx : ∀ (q : Addr) (μ' : Mem) (H1 : Heap) (locs1 : List Loc) (ce : Cell), K none μ' → Rp G (noX μ') s H1 locs1 → H1[q]? = some ce → ce.vm = .none → s.vm.findClass "java/util/NoSuchElementException" = some ce.cls → vx_W p l e R s m args below meth c H1 locs1 (cells + mc) (slots + ms) Qf (F0 m pc lm (st.map (toV (gad G)))) q) :
    W p l e R s m args below meth c H locs cells slots Qf (F0 m pc lm st0) := by
  intro T hT X
  have hB := hC.2.2.2.2.2.1.2.2.2.2.2.2.1
  rcases hrun T hT X with ⟨v, st₀, t, T', L, h0, X', hL, e1, e2, ⟨⟨r, μ', hK, hv, hok, hRp⟩, hF⟩, stp⟩ | ⟨q, st₀, t, T', L, E, ce, h0, X', hL, e1, e2, ⟨⟨hE, μ', hK, hRp⟩, hF⟩, hce, hcv, hcl, stp⟩
  · cases hv
    have hvm : s.vm.Alike t.vm := by rw [← e2]; exact X'.warmed.alike
    obtain ⟨t2, a1, b1⟩ := kr r μ' T'.heap (locs ++ L) hK hok (hR.back hB hRp h0 e1 hvm hF hL) T' rfl X'
    refine ⟨t2, stp t2 ?_, b1⟩
    have ee : (r.map (toV (gad G))).toList ++ st.map (toV (gad G)) = (r.toList ++ st).map (toV (gad G)) := by
      cases r <;> rfl
    rw [ee]
    exact a1
  · subst hE
    have hvm : s.vm.Alike t.vm := by rw [← e2]; exact X'.warmed.alike
    obtain ⟨t2, a1, b1⟩ := kx q μ' T'.heap (locs ++ L) ce hK (hR.back hB hRp h0 e1 hvm hF hL) (by rw [e1]; exact hce) hcv hcl T' rfl X'
    exact ⟨t2, stp.trans a1, b1⟩
theorem pre_S {d : Nat} {M : MI} {G : GT} {μ : Mem} {p : Program} {l : Launch} {R : Room} {s : State} {m : MethodId} {args : Array Value} {meth : Method} {c : Code} {H : Heap} {locs : List Loc} {av : List AV}
    (hC : Cx d M G p l R s m args meth c) (hR : Rp G μ s H locs) (ho : oks av) : PreS s H (PcC G av μ) (av.map (toV (gad G))) :=
  ⟨blind, fun U hU hW => ⟨rfl, ho, hR.moveS hU hW.alike, hC.2.2.2.2.2.1.moved hR.2.2.1 hU hW⟩⟩
theorem oks_rev {av st : List AV} (h : oks (av.reverse ++ st)) : oks av ∧ oks st :=
  ⟨fun v hv => h v (List.mem_append_left _ (List.mem_reverse.mpr hv)), fun v hv => h v (List.mem_append_right _ hv)⟩
theorem oks_app {r : Option AV} {st : List AV} (h : ∀ v, r = some v → okv v) (h2 : oks st) : oks (r.toList ++ st) := by
  cases r with
  | none => exact h2
  | some v => exact oks_c (h v rfl) h2
section CALLS
variable {d bc bs mc ms : Nat} {M : MI} {pc : Nat} {ls : List (Option AV)} {st : List AV} {μ : Mem} {Q : Option (Option AV) → Mem → Prop} {K : Option (Option AV) → Mem → Prop} {i na : Nat} {M' : MI} {av : List AV}
theorem st_callS (hd : decode (mcd M) pc = .ok (.invokestatic i, 3)) (hc : cal (mow M) i = some (1, na, M')) (hn : av.length = na) (hst : csum st ≤ 8) (hC : Cl d mc ms M' av μ K) (hmc : mc ≤ bc) (hms : ms ≤ bs) (kx : ∀ μ', ¬ K none μ')
    (kr : ∀ (r : Option AV) (μ' : Mem), K (some r) μ' → Wp (d + 1) (bc - mc) (bs - ms) M (pc + 3) ls (r.toList ++ st) μ' Q) : Wp (d + 1) bc bs M pc ls (av.reverse ++ st) μ Q := by
  obtain ⟨hM, w1, w2, hp, hh⟩ := cal_1 hc
  obtain ⟨o1, o2, o3, o4, o5, o6, o7⟩ := mt_ok hM
  intro p l e R s m args below meth c H locs cells slots Qf G lm hCx hR hL hs hcl hsl hE
  obtain ⟨ho1, ho2⟩ := oks_rev hs
  obtain ⟨hx, hb, hml, hown, hts, hS, hfr, hlo, -, -, -, htr, -⟩ := id hCx
  refine run_go (st := st) hCx hR (vx_runS (As := av.map (toV (gad G))) (Ts := bigW) (own := onm (mow M)) (y := mnm M') (bytes := mcd M') (maxL := mml M') (ret := mrt M') (n := na) (nL := mml M) ⟨hx, hb, hml, hown, hts⟩ (hC l G htr) ⟨callB_of (ws' := bigW) na hts (ws_good hM) (by unfold mwd; rw [if_pos hh]) rfl rfl (hts _ o6) (hts _ w1) ⟨o3, o4, par_of hp⟩ ⟨by show d + 12 + 1 ≤ R.frames; omega, by show 8 + (mml M' + 11) + (60 * d + 200) ≤ R.locals; omega⟩, hts _ w2⟩ (pre_S hCx hR ho1) rfl (by rw [List.length_map]; exact hn) hL.2.1 (by rw [List.map_append, List.map_reverse]) (by show 2 * 0 + _ ≤ 8; rw [csum_V]; omega) hd ⟨by omega, by omega⟩) ?_ (fun q μ' _ _ _ hk => absurd hk (kx μ'))
  intro r μ' H1 locs1 hK hok hR1
  exact kr r μ' hK p l e R s m args below meth c H1 locs1 (cells + mc) (slots + ms) Qf G lm hCx hR1 hL (oks_app hok ho2) (by omega) (by omega) hE
theorem st_callSN (hd : decode (mcd M) pc = .ok (.invokestatic i, 3)) (hc : cal (mow M) i = some (4, na, M')) (hn : av.length = na) (hst : csum st ≤ 8) (hC : Cl d mc ms M' av μ K) (hmc : mc ≤ bc) (hms : ms ≤ bs) (kx : ∀ μ', ¬ K none μ')
    (kr : ∀ (r : Option AV) (μ' : Mem), K (some r) μ' → Wp (d + 1) (bc - mc) (bs - ms) M (pc + 3) ls (r.toList ++ st) μ' Q) : Wp (d + 1) bc bs M pc ls (av.reverse ++ st) μ Q := by
  obtain ⟨hM, w1, w2, hp, hh⟩ := cal_4 hc
  obtain ⟨o1, o2, o3, o4, o5, o6, o7⟩ := mt_ok hM
  intro p l e R s m args below meth c H locs cells slots Qf G lm hCx hR hL hs hcl hsl hE
  obtain ⟨ho1, ho2⟩ := oks_rev hs
  obtain ⟨hx, hb, hml, hown, hts, hS, hfr, hlo, -, -, -, htr, -⟩ := id hCx
  refine run_go (st := st) hCx hR (vx_runSN (As := av.map (toV (gad G))) (Ts := bigW) (own := onm (mow M)) (host := "CoffeeThatSlops") (y := mnm M') (bytes := mcd M') (maxL := mml M') (ret := mrt M') (n := na) (nL := mml M) ⟨hx, hb, hml, hown, hts⟩ (hC l G htr) ⟨va_cnB (ws' := bigW) na hts (ws_good hM) (by unfold mwd; rw [if_pos hh]) rfl rfl (hS.2.1.1 _ w1) (hts _ o6) ⟨o3, o4, par_of hp⟩ ⟨by show d + 12 + 1 ≤ R.frames; omega, by show 8 + (mml M' + 11) + (60 * d + 200) ≤ R.locals; omega⟩, hts _ w2, trivial⟩ (pre_S hCx hR ho1) rfl (by rw [List.length_map]; exact hn) hL.2.1 (by rw [List.map_append, List.map_reverse]) (by show 2 * 0 + _ ≤ 8; rw [csum_V]; omega) hd ⟨by omega, by omega⟩) ?_ (fun q μ' _ _ _ hk => absurd hk (kx μ'))
  intro r μ' H1 locs1 hK hok hR1
  exact kr r μ' hK p l e R s m args below meth c H1 locs1 (cells + mc) (slots + ms) Qf G lm hCx hR1 hL (oks_app hok ho2) (by omega) (by omega) hE
/-- a virtual call, seen from a method that may catch: the throw's road is kept -/
theorem callV0 {b : Nat} (hd : decode (mcd M) pc = .ok (.invokevirtual i, 3)) (hc : cal (mow M) i = some (0, na, M')) (hn : av.length + 1 = na) (h10 : mow M' ≤ 10) (hb0 : mK μ b = mow M' + 1) (hst : csum st ≤ 8) (hC : Cl d mc ms M' (vr b :: av) μ K) (hmc : mc ≤ bc) (hms : ms ≤ bs)
    (kr : ∀ (r : Option AV) (μ' : Mem), K (some r) μ' → Wp (d + 1) (bc - mc) (bs - ms) M (pc + 3) ls (r.toList ++ st) μ' Q)
    (kx : ∀ (p : Program) (l : Launch) (e : Env) (R : Room) (s : State) (m : MethodId) (args : Array Value) (below : List Frame) (meth : Method) (c : Code) (H1 : Heap) (locs1 : List Loc) (cells1 slots1 : Nat) (Qf : State → Prop) (G : GT) (lm : Array Slot) (q : Addr) (μ' : Mem) (ce : Cell), K none μ' → Cx (d + 1) M G p l R s m args meth c → Rp G (noX μ') s H1 locs1 → LR (gad G) ls (mml M) lm → H1[q]? = some ce → ce.vm = .none → s.vm.findClass "java/util/NoSuchElementException" = some ce.cls → cells1 + (bc - mc) ≤ R.cells → slots1 + (bs - ms) ≤ R.slots →
      (∀ (res : Option (Option AV)) (μ' : Mem) (H' : Heap) (locs' : List Loc) (cells' slots' pc' : Nat) (lm' : Array Slot), Q res μ' → atE M res pc' → (∀ v, res = some (some v) → okv v) → Rp G μ' s H' locs' → lm'.size = mml M → cells' + thr1 res ≤ R.cells → slots' + 6 * thr1 res ≤ R.slots → W p l e R s m args below meth c H' locs' cells' slots' Qf (F0 m pc' lm' (stE G res))) →
      vx_W p l e R s m args below meth c H1 locs1 cells1 slots1 Qf (F0 m pc lm (st.map (toV (gad G)))) q) : Wp (d + 1) bc bs M pc ls (av.reverse ++ vr b :: st) μ Q := by
  obtain ⟨hM, w1, w2, w3, hna, hp, hh⟩ := cal_0 hc
  obtain ⟨o1, o2, o3, o4, o5, o6, o7⟩ := mt_ok hM
  intro p l e R s m args below meth c H locs cells slots Qf G lm hCx hR hL hs hcl hsl hE
  obtain ⟨ho1, ho2⟩ := oks_rev hs
  obtain ⟨hx, hb, hml, hown, hts, hS, hfr, hlo, -, -, -, htr, -⟩ := id hCx
  have z0 : mK μ b ≠ 0 := by omega
  have z4 : mK μ b ≠ 40 := by omega
  have hb4 := (hR.1 b z0 z4).1
  have hCls : (mnm M').cls = clC (mow M' + 1) := by rw [o1, onm_cl _ h10]
  have hrecv := va_recv hS.1 (hR.one z0 z4) (cl_cl (mow M' + 1) (by omega) (by omega)) (q0 := 0) (by rw [ent_obj hb0 (by omega)]; rfl)
  have hpre : PreV s H (mnm M').cls (gad G b) (PcC G (vr b :: av) μ) (av.map (toV (gad G))) := by
    refine ⟨blind, by rw [hCls]; exact hrecv, fun U hU hW => ?_⟩
    have h := (pre_S hCx hR (oks_c (v := vr b) trivial ho1)).2 U hU hW
    rw [List.map_cons, toV_ref hb4] at h
    exact h
  have hGood : GoodIn bigW (wsV (onm (mow M)) i (mnm M').cls (mnm M') (mwd M' :: bigW)) := big_good (fun w hw => by
    unfold wsV at hw
    rcases List.mem_append.mp hw with z | z
    · simp only [List.mem_cons, List.not_mem_nil, or_false] at z
      rcases z with rfl | rfl | rfl | rfl
      · exact w1
      · exact w2
      · exact w3
      · exact o6
    · exact (ws_good hM w z).1)
  have hrun := vx_runV (p := p) (l := l) (e := e) (R := R) (s := s) (m := m) (args := args) (below := below) (meth := meth) (c := c) (H := H) (locs := locs) (cells := cells) (slots := slots) (g := F0 m pc lm ((av.reverse ++ vr b :: st).map (toV (gad G)))) (rest := st.map (toV (gad G))) (As := av.map (toV (gad G))) (b := gad G b) (Ts := bigW) (own := onm (mow M)) (C := (mnm M').cls) (y := mnm M') (bytes := mcd M') (maxL := mml M') (ret := mrt M') (n := na - 1) (nL := mml M) ⟨hx, hb, hml, hown, hts⟩ (hC l G htr) (cwV (ws' := bigW) (na - 1) hts hGood (by unfold mwd; rw [if_pos hh]) rfl rfl ⟨rfl, o3, o4, par_of hp⟩ ⟨by show d + 12 + 1 ≤ R.frames; omega, by show 8 + (mml M' + 11) + (60 * d + 200) ≤ R.locals; omega⟩) hpre rfl (by rw [List.length_map]; omega) hL.2.1 (by rw [List.map_append, List.map_reverse, List.map_cons, toV_ref hb4]) (by show 2 * 0 + _ ≤ 8; rw [csum_V]; omega) hd ⟨by omega, by omega⟩
  refine run_go (st := st) hCx hR hrun ?_ ?_
  · intro r μ' H1 locs1 hK hok hR1
    exact kr r μ' hK p l e R s m args below meth c H1 locs1 (cells + mc) (slots + ms) Qf G lm hCx hR1 hL (oks_app hok (oks_t ho2)) (by omega) (by omega) hE
  · intro q μ' H1 locs1 ce hK hR1 h1 h2 h3
    exact kx p l e R s m args below meth c H1 locs1 (cells + mc) (slots + ms) Qf G lm q μ' ce hK hCx hR1 hL h1 h2 h3 (by omega) (by omega) hE
theorem st_callV {b : Nat} (hd : decode (mcd M) pc = .ok (.invokevirtual i, 3)) (hc : cal (mow M) i = some (0, na, M')) (hn : av.length + 1 = na) (h10 : mow M' ≤ 10) (hb0 : mK μ b = mow M' + 1) (hst : csum st ≤ 8) (hC : Cl d mc ms M' (vr b :: av) μ K) (hmc : mc ≤ bc) (hms : ms ≤ bs) (kx : ∀ μ', ¬ K none μ')
    (kr : ∀ (r : Option AV) (μ' : Mem), K (some r) μ' → Wp (d + 1) (bc - mc) (bs - ms) M (pc + 3) ls (r.toList ++ st) μ' Q) : Wp (d + 1) bc bs M pc ls (av.reverse ++ vr b :: st) μ Q :=
  callV0 hd hc hn h10 hb0 hst hC hmc hms kr (fun p l e R s m args below meth c H1 locs1 cells1 slots1 Qf G lm q μ' ce hK => absurd hK (kx μ'))
theorem st_callI {b : Nat} (hd : decode (mcd M) pc = .ok (.invokespecial i, 3)) (hc : cal (mow M) i = some (2, na, M')) (hn : av.length + 1 = na) (hb4 : b ≠ 0) (hst : csum st ≤ 8) (hC : Cl d mc ms M' (vr b :: av) μ K) (hmc : mc ≤ bc) (hms : ms ≤ bs) (kx : ∀ μ', ¬ K none μ')
    (kr : ∀ (r : Option AV) (μ' : Mem), K (some r) μ' → Wp (d + 1) (bc - mc) (bs - ms) M (pc + 3) ls (r.toList ++ st) μ' Q) : Wp (d + 1) bc bs M pc ls (av.reverse ++ vr b :: st) μ Q := by
  obtain ⟨hM, w1, w2, hna, hp, hh, hy, hret⟩ := cal_2 hc
  obtain ⟨o1, o2, o3, o4, o5, o6, o7⟩ := mt_ok hM
  intro p l e R s m args below meth c H locs cells slots Qf G lm hCx hR hL hs hcl hsl hE
  obtain ⟨ho1, ho2⟩ := oks_rev hs
  obtain ⟨hx, hb, hml, hown, hts, hS, hfr, hlo, -, -, -, htr, -⟩ := id hCx
  have eb : toV (gad G) (vr b) = .ref (gad G b) := if_neg hb4
  have hpre : PreS s H (PcC G (vr b :: av) μ) (.ref (gad G b) :: av.map (toV (gad G))) := by
    have h := pre_S hCx hR (oks_c (v := vr b) trivial ho1)
    rw [List.map_cons, eb] at h
    exact h
  have hrun := vx_runI (p := p) (l := l) (e := e) (R := R) (s := s) (m := m) (args := args) (below := below) (meth := meth) (c := c) (H := H) (locs := locs) (cells := cells) (slots := slots) (g := F0 m pc lm ((av.reverse ++ vr b :: st).map (toV (gad G)))) (rest := st.map (toV (gad G))) (As := av.map (toV (gad G))) (b := gad G b) (Ts := bigW) (own := onm (mow M)) (y := mnm M') (bytes := mcd M') (maxL := mml M') (n := na - 1) (nL := mml M) ⟨hx, hb, hml, hown, hts⟩ (hC l G htr) ⟨callB_of (ws' := bigW) (na - 1) hts (ws_good hM) (by unfold mwd; rw [if_pos hh, hret]) rfl rfl (hts _ o6) (hts _ w1) ⟨o3, o4, par_of hp⟩ ⟨by show d + 12 + 1 ≤ R.frames; omega, by show 8 + (mml M' + 11) + (60 * d + 200) ≤ R.locals; omega⟩, hy, hts _ w2⟩ hpre rfl (by rw [List.length_map]; omega) hL.2.1 (by rw [List.map_append, List.map_reverse, List.map_cons, eb]) (by show 2 * 0 + _ ≤ 8; rw [csum_V]; omega) hd ⟨by omega, by omega⟩
  refine run_go (st := st) hCx hR hrun ?_ (fun q μ' _ _ _ hk => absurd hk (kx μ'))
  intro r μ' H1 locs1 hK hok hR1
  exact kr r μ' hK p l e R s m args below meth c H1 locs1 (cells + mc) (slots + ms) Qf G lm hCx hR1 hL (oks_app hok (oks_t ho2)) (by omega) (by omega) hE
theorem st_callIN {b : Nat} (hd : decode (mcd M) pc = .ok (.invokespecial i, 3)) (hc : cal (mow M) i = some (5, na, M')) (hn : av.length + 1 = na) (hb4 : b ≠ 0) (hst : csum st ≤ 8) (hC : Cl d mc ms M' (vr b :: av) μ K) (hmc : mc ≤ bc) (hms : ms ≤ bs) (kx : ∀ μ', ¬ K none μ')
    (kr : ∀ (r : Option AV) (μ' : Mem), K (some r) μ' → Wp (d + 1) (bc - mc) (bs - ms) M (pc + 3) ls (r.toList ++ st) μ' Q) : Wp (d + 1) bc bs M pc ls (av.reverse ++ vr b :: st) μ Q := by
  obtain ⟨hM, w1, w2, hna, hp, hh, hy, hret⟩ := cal_5 hc
  obtain ⟨o1, o2, o3, o4, o5, o6, o7⟩ := mt_ok hM
  intro p l e R s m args below meth c H locs cells slots Qf G lm hCx hR hL hs hcl hsl hE
  obtain ⟨ho1, ho2⟩ := oks_rev hs
  obtain ⟨hx, hb, hml, hown, hts, hS, hfr, hlo, -, -, -, htr, -⟩ := id hCx
  have eb : toV (gad G) (vr b) = .ref (gad G b) := if_neg hb4
  have hpre : PreS s H (PcC G (vr b :: av) μ) (.ref (gad G b) :: av.map (toV (gad G))) := by
    have h := pre_S hCx hR (oks_c (v := vr b) trivial ho1)
    rw [List.map_cons, eb] at h
    exact h
  have hrun := vx_runIN (p := p) (l := l) (e := e) (R := R) (s := s) (m := m) (args := args) (below := below) (meth := meth) (c := c) (H := H) (locs := locs) (cells := cells) (slots := slots) (g := F0 m pc lm ((av.reverse ++ vr b :: st).map (toV (gad G)))) (rest := st.map (toV (gad G))) (As := av.map (toV (gad G))) (b := gad G b) (Ts := bigW) (own := onm (mow M)) (host := "CoffeeThatSlops") (y := mnm M') (bytes := mcd M') (maxL := mml M') (n := na - 1) (nL := mml M) ⟨hx, hb, hml, hown, hts⟩ (hC l G htr) ⟨va_cnB (ws' := bigW) (na - 1) hts (ws_good hM) (by unfold mwd; rw [if_pos hh, hret]) rfl rfl (hS.2.1.1 _ w1) (hts _ o6) ⟨o3, o4, par_of hp⟩ ⟨by show d + 12 + 1 ≤ R.frames; omega, by show 8 + (mml M' + 11) + (60 * d + 200) ≤ R.locals; omega⟩, hy, hts _ w2⟩ hpre rfl (by rw [List.length_map]; omega) hL.2.1 (by rw [List.map_append, List.map_reverse, List.map_cons, eb]) (by show 2 * 0 + _ ≤ 8; rw [csum_V]; omega) hd ⟨by omega, by omega⟩
  refine run_go (st := st) hCx hR hrun ?_ (fun q μ' _ _ _ hk => absurd hk (kx μ'))
  intro r μ' H1 locs1 hK hok hR1
  exact kr r μ' hK p l e R s m args below meth c H1 locs1 (cells + mc) (slots + ms) Qf G lm hCx hR1 hL (oks_app hok (oks_t ho2)) (by omega) (by omega) hE
end CALLS
