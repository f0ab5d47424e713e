/-! ===== calls with a catch, Object's constructor, copies, statics, new objects ===== -/
theorem LR.stoD {ad : Nat → Nat} {ls : List (Option AV)} {nL : Nat} {lm lm' : Array Slot} {i : Nat} {w : Value} (h : LR ad ls nL lm)
    (hh : lv_has lm' nL ((i, w) :: (lvl ad ls nL).filter (fun q => !(q.1 == i) && !(q.1 + 1 == i && q.2.category == 2)))) : LR ad ((clr ls i).set i none) nL lm' := by
  refine ⟨by rw [List.length_set, clr_len]; exact h.1, hh.1, hh.2.1, fun k w9 hw => ?_⟩
  by_cases e : k = i
  · subst e
    by_cases hl : k < (clr ls k).length
    · rw [List.getElem?_set_self hl] at hw
      cases hw
    · have := (List.getElem?_eq_some_iff.mp hw).1
      rw [List.length_set] at this
      exact absurd this hl
  · rw [List.getElem?_set_ne (Ne.symm e)] at hw
    obtain ⟨h1, h2⟩ := clr_at hw
    refine ⟨hh.2.2 (k, toV ad w9) (List.mem_cons_of_mem _ (List.mem_filter.mpr ⟨lvl_mem h.1 h1, ?_⟩)), h.ok h1⟩
    simp only [Bool.and_eq_true, Bool.not_eq_true', beq_eq_false_iff_ne, ne_eq, Bool.and_eq_false_iff]
    refine ⟨e, ?_⟩
    by_cases e2 : k + 1 = i
    · refine Or.inr ?_
      rw [cat_L, if_neg (fun z => h2 ⟨e2, z⟩)]
      decide
    · exact Or.inl e2
theorem cast_in : Cond.castable "java/util/NoSuchElementException" "java/util/NoSuchElementException" ∈ thN := by decide +kernel
section REST
variable {d bc bs mc ms : Nat} {M : MI} {pc : Nat} {ls : List (Option AV)} {st : List AV} {μ : Mem} {Q : Option (Option AV) → Mem → Prop} {K : Option (Option AV) → Mem → Prop} {i na : Nat} {M' : MI} {av : List AV}
/-- a static method with handlers -/
theorem st_callH (hd : decode (mcd M) pc = .ok (.invokestatic i, 3)) (hc : cal (mow M) i = some (8, na, M')) (hn : av.length = na) (hst : csum st ≤ 8) (hC : Cl d mc ms M' av μ K) (hmc : mc ≤ bc) (hms : ms ≤ bs) (kx : ∀ μ', ¬ K none μ')
    (kr : ∀ (r : Option AV) (μ' : Mem), K (some r) μ' → Wp (d + 1) (bc - mc) (bs - ms) M (pc + 3) ls (r.toList ++ st) μ' Q) : Wp (d + 1) bc bs M pc ls (av.reverse ++ st) μ Q := by
  obtain ⟨hM, w1, w2, hp, hh⟩ := cal_8 hc
  obtain ⟨o1, o2, o3, o4, o5, o6, o7⟩ := mt_ok hM
  intro p l e R s m args below meth c H locs cells slots Qf G lm hCx hR hL hs hcl hsl hE
  obtain ⟨ho1, ho2⟩ := oks_rev hs
  obtain ⟨hx, hb, hml, hown, hts, hS, hfr, hlo, -, -, -, htr, -⟩ := id hCx
  have hGood : GoodIn bigW (va_wsS (onm (mow M)) i (mnm M') (mwd M' :: bigW)) := big_good (fun w hw => by
    unfold va_wsS at hw
    rcases List.mem_append.mp hw with z | z
    · simp only [List.mem_cons, List.not_mem_nil, or_false] at z
      rcases z with rfl | rfl | rfl
      · exact w1
      · exact w2
      · exact o6
    · exact (ws_good hM w z).1)
  refine run_go (st := st) hCx hR (vx_runSX (hh := mhh M') (As := av.map (toV (gad G))) (Ts := bigW) (own := onm (mow M)) (y := mnm M') (bytes := mcd M') (maxL := mml M') (ret := mrt M') (n := na) (nL := mml M) ⟨hx, hb, hml, hown, hts⟩ (hC l G htr) (vx_cwSW (ws' := bigW) na hts hGood (by unfold mwd; rw [if_neg (by rw [hh]; decide)]) rfl rfl ⟨o3, o4, par_of hp⟩ ⟨by show d + 12 + 1 ≤ R.frames; omega, by show 8 + (mml M' + 11) + (60 * d + 200) ≤ R.locals; omega⟩) (pre_S hCx hR ho1) rfl (by rw [List.length_map]; exact hn) hL.2.1 (by rw [List.map_append, List.map_reverse]) (by show 2 * 0 + _ ≤ 8; rw [csum_V]; omega) hd ⟨by omega, by omega⟩) ?_ (fun q μ' _ _ _ hk => absurd hk (kx μ'))
  intro r μ' H1 locs1 hK hok hR1
  exact kr r μ' hK p l e R s m args below meth c H1 locs1 (cells + mc) (slots + ms) Qf G lm hCx hR1 hL (oks_app hok ho2) (by omega) (by omega) hE
/-- a virtual call that may throw, in a method that catches it into local k -/
theorem st_callC {b h1 h2 h3 h4 k len : Nat} {ins : Instr} (hd : decode (mcd M) pc = .ok (.invokevirtual i, 3)) (hc : cal (mow M) i = some (0, na, M')) (hn : av.length + 1 = na) (h10 : mow M' ≤ 10) (hb0 : mK μ b = mow M' + 1) (hst : csum st ≤ 8) (hC : Cl d mc ms M' (vr b :: av) μ K) (hmc : mc ≤ bc) (hms : ms ≤ bs)
    (htab : mhh M = [(h1, h2, h3, h4)]) (hin : h1 ≤ pc ∧ pc < h2) (h40 : h4 ≠ 0) (hlk : Cond.classLink (onm (mow M)) h4 "java/util/NoSuchElementException" ∈ bigW)
    (hst1 : (decode (mcd M) h3 = .ok (.astore k, 2) ∧ len = 2) ∨ (∃ n : Fin 4, (n : Nat) = k ∧ decode (mcd M) h3 = .ok (.astore_n n, 1) ∧ len = 1)) (hk : k < ls.length)
    (kr : ∀ (r : Option AV) (μ' : Mem), K (some r) μ' → Wp (d + 1) (bc - mc) (bs - ms) M (pc + 3) ls (r.toList ++ st) μ' Q)
    (kc : ∀ μ' : Mem, K none μ' → Wp (d + 1) (bc - mc) (bs - ms) M (h3 + len) ((clr ls k).set k none) [] (noX μ') Q) : Wp (d + 1) bc bs M pc ls (av.reverse ++ vr b :: st) μ Q := by
  refine callV0 hd hc hn h10 hb0 hst hC hmc hms kr ?_
  intro p l e R s m args below meth c H1 locs1 cells1 slots1 Qf G lm q μ' ce hK hCx hR hL hq hv hcl hcs hss hE
  obtain ⟨hx, hb, hml, hown, hts, hS, hfr, hlo, -, -, -, htr, htb⟩ := id hCx
  rw [htab] at htb
  have hlk2 := hts _ hlk
  refine vx_catch (own := onm (mow M)) (name := "java/util/NoSuchElementException") (E := "java/util/NoSuchElementException") hown [] ⟨h1, h2, h3, h4⟩ [] htb (fun z hz => by cases hz) ?_ h40 hlk2 (va_Nw.use (List.all_eq_true.mp thN_tab _ cast_in) (hS.2.2.2.2.2.2.2.2.2.2 _ cast_in)) hq hv hcl ?_
  · unfold covers
    simp only [Bool.and_eq_true, decide_eq_true_eq]
    exact hin
  · have go : ∀ lm' : Array Slot, lv_has lm' (mml M) ((k, Value.ref q) :: (lvl (gad G) ls (mml M)).filter (fun q => !(q.1 == k) && !(q.1 + 1 == k && q.2.category == 2))) → W p l e R s m args below meth c H1 locs1 cells1 slots1 Qf (F0 m (h3 + len) lm' []) := fun lm' hh =>
      kc μ' hK p l e R s m args below meth c H1 locs1 cells1 slots1 Qf G lm' hCx hR (hL.stoD hh) oks_nil hcs hss hE
    rcases hst1 with ⟨hs1, rfl⟩ | ⟨n, hn1, hs1, rfl⟩
    · exact lv_astore hx hb hs1 hL.has (Nat.lt_of_lt_of_le hk hL.1) rfl go
    · exact lv_astore_n hx hb hs1 hn1 hL.has (Nat.lt_of_lt_of_le hk hL.1) rfl go
theorem obj_code : Cond.code objectInit ⟨#[0xb1]⟩ 1 none ∈ bigW := List.mem_filter.mpr ⟨by decide +kernel, rfl⟩
theorem st_objInit {b : Nat} {x : MI} (hd : decode (mcd M) pc = .ok (.invokespecial i, 3)) (hc : cal (mow M) i = some (6, na, x)) (hb4 : b ≠ 0) (hst : csum st ≤ 8) (k : Wp d bc bs M (pc + 3) ls st μ Q) : Wp d bc bs M pc ls (vr b :: st) μ Q := by
  refine Wp.step (fun {p l e R s m args below meth c H locs cells slots Qf G lm} hC _ hL _ w => ?_) (fun _ _ h => oks_t h) k
  obtain ⟨hx, hb, hml, hown, hts, hS, hfr, hlo, -⟩ := hC
  obtain ⟨x9, ps, -, hck⟩ := cal_e hc
  have hw : Cond.methodLink (onm (mow M)) i objectInit ∈ bigW ∧ Cond.instanceMethod objectInit ∈ bigW := by
    rcases ps with _ | ⟨p0, _ | ⟨p1, _ | ⟨_, _⟩⟩⟩
    · cases hck
    · cases hck
    · unfold cchk at hck
      simp only [Bool.and_eq_true] at hck
      exact ⟨okw_in hck.1, okw_in hck.2⟩
    · cases hck
  have eb : toV (gad G) (vr b) = .ref (gad G b) := if_neg hb4
  rw [List.map_cons, eb]
  exact W.objInit hx hb hown (hts _ hw.1) (hts _ hw.2) (hts _ obj_code) rfl (by rw [hml]; exact hL.2.1) rfl hd (by omega) (by show 2 * 0 + _ + 12 ≤ _; rw [csum_V]; omega) w
def sCp (μ : Mem) (a : Nat) (sp : Int) (b : Nat) (dp n : Int) : Mem := (fun o k => if o = b ∧ dp ≤ k ∧ k < dp + n then mD μ a (sp + (k - dp)) else mD μ o k, mR μ, mK μ, mN μ, 0)
theorem copy_words : Cond.native arraycopyName ∈ bigW ∧ Cond.static arraycopyName ∈ bigW ∧ Cond.initialized "java/lang/System" ∈ bigW :=
  ⟨List.mem_filter.mpr ⟨by decide +kernel, rfl⟩, List.mem_filter.mpr ⟨by decide +kernel, rfl⟩, List.mem_filter.mpr ⟨by decide +kernel, rfl⟩⟩
theorem st_copy {a b : Nat} {sp dp n : Int} {x : MI} (hd : decode (mcd M) pc = .ok (.invokestatic i, 3)) (hc : cal (mow M) i = some (7, na, x)) (hka : mK μ a = 20) (hkb : mK μ b = 20) (h1 : 0 ≤ sp) (h2 : 0 ≤ dp) (h3 : 0 ≤ n) (h4 : sp + n ≤ mN μ a) (h5 : dp + n ≤ mN μ b) (hst : csum st ≤ 8)
    (k : Wp d bc bs M (pc + 3) ls st (sCp μ a sp b dp n) Q) : Wp d bc bs M pc ls (vi n :: vi dp :: vr b :: vi sp :: vr a :: st) μ Q := by
  refine Wp.mem (fun {p l e R s m args below meth c H locs cells slots Qf G lm} hC hR hL ho w => ?_) (fun h => oks_t (oks_t (oks_t (oks_t (oks_t h))))) k
  obtain ⟨hx, hb, hml, hown, hts, hS, hfr, hlo, -⟩ := hC
  obtain ⟨x9, ps, -, hck⟩ := cal_e hc
  have hw : Cond.methodLink (onm (mow M)) i arraycopyName ∈ bigW := by
    rcases ps with _ | ⟨p0, _ | ⟨_, _⟩⟩
    · cases hck
    · exact okw_in hck
    · cases hck
  have za0 : mK μ a ≠ 0 := by omega
  have za4 : mK μ a ≠ 40 := by omega
  have zb0 : mK μ b ≠ 0 := by omega
  have zb4 : mK μ b ≠ 40 := by omega
  have hn := oks_h ho
  have hdp := oks_h (oks_t ho)
  have hsp := oks_h (oks_t (oks_t (oks_t ho)))
  have ha4 := (hR.1 a za0 za4).1
  have hb4 := (hR.1 b zb0 zb4).1
  have hata := (hR.1 a za0 za4).2
  have hatb := (hR.1 b zb0 zb4).2
  rw [ent_i hka (by omega) (by omega) (by omega)] at hata
  rw [ent_i hkb (by omega) (by omega) (by omega)] at hatb
  have nn : ∀ z : Int, r32 z → 0 ≤ z → ¬ Int32.ofInt z < 0 := fun z hz h0 q => by
    rw [i_0, i_lt hz r32_0] at q
    omega
  have nc : ∀ z : Int, r32 z → 0 ≤ z → (((Int32.ofInt z).toNatClampNeg : Nat) : Int) = z := fun z hz h0 => i_ix hz h0
  have tn : ∀ z : Int, r32 z → 0 ≤ z → (Int32.ofInt z).toInt = z := fun z hz h0 => i_to hz
  rw [List.map_cons, List.map_cons, List.map_cons, List.map_cons, List.map_cons, toV_ref ha4, toV_ref hb4]
  have hata : H[gad G a]? = some (vp_cell (gcy G 0) (mN μ a, .inl (fun j => Int32.ofInt (mD μ a j)))) := hata
  have hatb : H[gad G b]? = some (vp_cell (gcy G 0) (mN μ b, .inl (fun j => Int32.ofInt (mD μ b j)))) := hatb
  intro T hT X
  have hc0 : H[gad G a]? = some (vp_cell (gcy G 0) (mN μ a, .inl (fun j => Int32.ofInt (mD μ a j)))) := hata
  have hc1 : H[gad G b]? = some (vp_cell (gcy G 0) (mN μ b, .inl (fun j => Int32.ofInt (mD μ b j)))) := hatb
  have hAt : ArrOfT s (gcy G 0) .int := (hS.1.2 0 _ rfl).1
  have hnf : nativeFrameWords "java/lang/System" "arraycopy" 5 + 11 ≤ 190 := by decide +kernel
  obtain ⟨-, k0, hk0, cm0, hkk0⟩ := hAt (mN μ a) (fun j => .int (Int32.ofInt (mD μ a j)))
  obtain ⟨-, k1, hk1, cm1, hkk1⟩ := hAt (mN μ b) (fun j => .int (Int32.ofInt (mD μ b j)))
  have hle : (Int32.ofInt sp).toNatClampNeg + (Int32.ofInt n).toNatClampNeg ≤ mN μ a := by
    have e1 := nc sp hsp h1
    have e2 := nc n hn h3
    omega
  obtain ⟨vm', X', step⟩ := X.arraycopy hx hown (hts _ hw) (hts _ copy_words.1) (hts _ copy_words.2.1) (hts _ copy_words.2.2) (src := gad G a) (dst := gad G b) (cs := vp_cell (gcy G 0) (mN μ a, .inl (fun j => Int32.ofInt (mD μ a j)))) (cd := vp_cell (gcy G 0) (mN μ b, .inl (fun j => Int32.ofInt (mD μ b j)))) (srcPos := Int32.ofInt sp) (destPos := Int32.ofInt dp) (n := Int32.ofInt n) (by rw [hT]; exact hc0) (by rw [hT]; exact hc1)
    (fun _ h => by cases h) (fun _ h => by cases h) (fun h => by cases h) (fun h => by cases h) hk0 hk1 hkk0 hkk1 (by decide) (nn sp hsp h1) (nn dp hdp h2) (nn n hn h3)
    (by rw [tn sp hsp h1, tn n hn h3]; show ¬ _ > ((arrV _ _ _).slots.size : Int); rw [arrV_size]; omega)
    (by rw [tn dp hdp h2, tn n hn h3]; show ¬ _ > ((arrV _ _ _).slots.size : Int); rw [arrV_size]; omega)
    (fun vm₁ _ j hj => by
      have e : (vp_cell (gcy G 0) (mN μ a, .inl (fun j => Int32.ofInt (mD μ a j)))).slots.getD ((Int32.ofInt sp).toNatClampNeg + j) .null = .int (Int32.ofInt (mD μ a (((Int32.ofInt sp).toNatClampNeg + j : Nat) : Int))) := by
        show (arrV _ _ _).slots.getD _ _ = _
        rw [Array.getD_eq_getD_getElem?, arrV_read _ _ (by omega)]
        rfl
      refine ⟨?_, ?_⟩
      · rw [e]; rfl
      · rw [e]; exact trivial)
    (g := F0 m pc lm (.int (Int32.ofInt n) :: .int (Int32.ofInt dp) :: .ref (gad G b) :: .int (Int32.ofInt sp) :: .ref (gad G a) :: st.map (toV (gad G)))) rfl (by rw [hml]; exact hL.2.1) (rest := st.map (toV (gad G))) rfl (by rw [hb]; exact hd) (by omega) (by show 2 * 0 + _ + _ ≤ _; rw [csum_V]; omega)
  have e1 : copied (vp_cell (gcy G 0) (mN μ a, .inl (fun j => Int32.ofInt (mD μ a j)))) (vp_cell (gcy G 0) (mN μ b, .inl (fun j => Int32.ofInt (mD μ b j)))) (Int32.ofInt sp) (Int32.ofInt dp) (Int32.ofInt n) = vp_cell (gcy G 0) (mN μ b, .inl (va_cpy (fun j => Int32.ofInt (mD μ a j)) (fun j => Int32.ofInt (mD μ b j)) (Int32.ofInt sp).toNatClampNeg (Int32.ofInt dp).toNatClampNeg (Int32.ofInt n).toNatClampNeg)) := va_copied (fun z => .int z) (gcy G 0) (gcy G 0) (n1 := mN μ b) (dp := (Int32.ofInt dp).toNatClampNeg) (fun j : Nat => Int32.ofInt (mD μ a j)) (fun j : Nat => Int32.ofInt (mD μ b j)) hle
  have e2 : va_cpy (fun j : Nat => Int32.ofInt (mD μ a j)) (fun j : Nat => Int32.ofInt (mD μ b j)) (Int32.ofInt sp).toNatClampNeg (Int32.ofInt dp).toNatClampNeg (Int32.ofInt n).toNatClampNeg = fun j : Nat => Int32.ofInt (mD (sCp μ a sp b dp n) b j) := by
    funext j
    have c1 := nc sp hsp h1
    have c2 := nc dp hdp h2
    have c3 := nc n hn h3
    unfold va_cpy
    show _ = Int32.ofInt (if b = b ∧ dp ≤ (j : Int) ∧ (j : Int) < dp + n then mD μ a (sp + ((j : Int) - dp)) else mD μ b j)
    by_cases z : (Int32.ofInt dp).toNatClampNeg ≤ j ∧ j < (Int32.ofInt dp).toNatClampNeg + (Int32.ofInt n).toNatClampNeg
    · rw [if_pos z, if_pos ⟨rfl, by omega, by omega⟩]
      exact congrArg (fun q => Int32.ofInt (mD μ a q)) (by omega)
    · rw [if_neg z, if_neg (fun q => z ⟨by omega, by omega⟩)]
  rw [e1, e2] at X' step
  have hl : gad G b < H.size := (Array.getElem?_eq_some_iff.mp hc1).1
  have hheap : ((T.setVm vm').setCell (gad G b) (vp_cell (gcy G 0) (mN μ b, .inl (fun j : Nat => Int32.ofInt (mD (sCp μ a sp b dp n) b j))))).heap = H.setIfInBounds (gad G b) (vp_cell (gcy G 0) (mN μ b, .inl (fun j : Nat => Int32.ofInt (mD (sCp μ a sp b dp n) b j)))) := by rw [← hT]; rfl
  have oq : ∀ q : Nat, q ≠ gad G b → (H.setIfInBounds (gad G b) (vp_cell (gcy G 0) (mN μ b, .inl (fun j : Nat => Int32.ofInt (mD (sCp μ a sp b dp n) b j)))))[q]? = H[q]? := fun q hq => by simp [Array.getElem?_setIfInBounds, Ne.symm hq]
  have hR1 : ∀ locs9 : List Loc, (∀ q ∈ locs9, gA G q.base) → Rp G (sCp μ a sp b dp n) s (H.setIfInBounds (gad G b) (vp_cell (gcy G 0) (mN μ b, .inl (fun j : Nat => Int32.ofInt (mD (sCp μ a sp b dp n) b j))))) locs9 := by
    intro locs9 hl9
    obtain ⟨r1, r2, r3, r4, r5, r6⟩ := hR
    have hne : ∀ o, o ≠ b → mD (sCp μ a sp b dp n) o = mD μ o := fun o ho9 => by
      funext k9
      show (if o = b ∧ _ then _ else _) = _
      rw [if_neg (fun z => ho9 z.1)]
    refine ⟨fun o ho0 ho40 => ?_, fun o ho9 => ?_, ⟨by simp; exact r3.1, fun q g1 g2 => ?_, hl9⟩, fun z => absurd rfl z, fun o j => ?_, r6⟩
    · obtain ⟨g1, g2⟩ := r1 o ho0 ho40
      refine ⟨g1, ?_⟩
      by_cases e : o = b
      · subst e
        rw [ent_i (μ := sCp μ a sp o dp n) hkb (by omega) (by omega) (by omega)]
        show (H.setIfInBounds (gad G o) _)[gad G o]? = some (vp_cell _ _)
        simp [Array.getElem?_setIfInBounds, hl]
        rfl
      · rw [ent_congr (μ := μ) (μ' := sCp μ a sp b dp n) (o := o) rfl rfl (hne o e) rfl]
        exact g2.kept (oq _ (gad_ne g1 hb4 e))
    · obtain ⟨g1, g2⟩ := r2 o ho9
      have e : o ≠ b := fun z => zb4 (by rw [← z]; exact ho9)
      refine ⟨g1, ?_⟩
      rw [hne o e]
      exact g2.kept (oq _ (fun z => by have := gad_ge (G := G) hb4; omega))
    · rw [oq q (fun e => g2 (by rw [e]; exact gad_ge hb4))]
      exact r3.2.1 q g1 g2
    · by_cases e : o = b
      · subst e
        refine ⟨fun z => absurd z (by show mK μ o ≠ 21; omega), fun _ => ?_⟩
        show r32 (if o = o ∧ _ then _ else _)
        split
        · exact (r5 a _).2 (by omega)
        · exact (r5 o j).2 (by omega)
      · rw [hne o e]; exact r5 o j
  obtain ⟨t, a1, b1⟩ := w _ _ (hR1 _ (fun q hq => by
      rcases List.mem_append.mp hq with h | h
      · exact hR.2.2.1.2.2 q h
      · obtain ⟨z, -, hz⟩ := List.mem_map.mp h
        rw [← hz]
        exact gad_ge hb4)) _ hheap X'
  exact ⟨t, step t a1, b1⟩
end REST
