/-! ===== new objects, static arrays ===== -/
def nwM (μ : Mem) (k n : Nat) : Mem := (fun o j => if o = mX μ then 0 else mD μ o j, fun o j => if o = mX μ then 0 else mR μ o j, fun o => if o = mX μ then k else mK μ o, fun o => if o = mX μ then n else mN μ o, mX μ + 1)
theorem gad_s {G : GT} {x : Nat} (h : 4 ≤ x) : gad G (x + 1) = gad G x + 1 := by
  unfold gad
  rw [if_neg (by omega), if_neg (by omega)]
  omega
theorem nwM_at {μ : Mem} {k n o : Nat} (h : o ≠ mX μ) : mD (nwM μ k n) o = mD μ o ∧ mR (nwM μ k n) o = mR μ o ∧ mK (nwM μ k n) o = mK μ o ∧ mN (nwM μ k n) o = mN μ o := by
  refine ⟨funext fun j => ?_, funext fun j => ?_, ?_, ?_⟩ <;> exact if_neg h
theorem Rp.new {G : GT} {μ : Mem} {s : State} {H H1 : Heap} {locs : List Loc} {k n : Nat} (h : Rp G μ s H locs) (hx : mX μ ≠ 0) (hk : k ≠ 40) (hn : n < 2147483648) (hat : va_at (gD G) vwCl (gad G (mX μ), ent G (nwM μ k n) (mX μ)) H1) (hz : H1.size = H.size + 1) (hq : ∀ q : Nat, q < H.size → H1[q]? = H[q]?) : Rp G (nwM μ k n) s H1 locs := by
  obtain ⟨h1, h2, h3, h4, h5, h6⟩ := h
  obtain ⟨x4, xH, xK⟩ := h4 hx
  refine ⟨fun o ho0 ho40 => ?_, fun o ho => ?_, ⟨Nat.le_trans h3.1 (by omega), fun q q1 q2 => (hq q (Nat.lt_of_lt_of_le q1 h3.1)).trans (h3.2.1 q q1 q2), h3.2.2⟩, fun _ => ?_, fun o j => ?_, fun o => ?_⟩
  · by_cases e : o = mX μ
    · rw [e]; exact ⟨x4, hat⟩
    · obtain ⟨e1, e2, e3, e4⟩ := nwM_at (k := k) (n := n) e
      rw [e3] at ho0 ho40
      obtain ⟨g1, g2⟩ := h1 o ho0 ho40
      refine ⟨g1, ?_⟩
      rw [ent_congr (μ := μ) e3 e4 e1 e2]
      exact g2.kept (hq _ g2.lt)
  · by_cases e : o = mX μ
    · exact absurd (show k = 40 by rw [← ho, e]; exact (if_pos rfl).symm) hk
    · obtain ⟨e1, e2, e3, e4⟩ := nwM_at (k := k) (n := n) e
      rw [e3] at ho
      obtain ⟨g1, g2⟩ := h2 o ho
      refine ⟨g1, ?_⟩
      rw [e4, e1]
      obtain ⟨scr, c1, -⟩ := id g2
      exact g2.kept (hq _ (Array.getElem?_eq_some_iff.mp c1).1)
  · refine ⟨by show 4 ≤ mX μ + 1; omega, by show H1.size = gad G (mX μ + 1); rw [hz, xH, gad_s x4], fun o ho => ?_⟩
    have ho : mX μ + 1 ≤ o := ho
    rw [(nwM_at (k := k) (n := n) (show o ≠ mX μ by omega)).2.2.1]
    exact xK o (by omega)
  · by_cases e : o = mX μ
    · have e0 : mD (nwM μ k n) o j = 0 := if_pos e
      rw [e0]
      exact ⟨fun _ => by unfold r64; omega, fun _ => r32_0⟩
    · obtain ⟨e1, e2, e3, e4⟩ := nwM_at (k := k) (n := n) e
      rw [e3, e1]
      exact h5 o j
  · by_cases e : o = mX μ
    · show (if o = mX μ then n else mN μ o) < _
      rw [if_pos e]; exact hn
    · rw [(nwM_at (k := k) (n := n) e).2.2.2]
      exact h6 o
theorem nwc_ok {o i kd : Nat} (h : nwc o i = some kd) : 1 ≤ kd ∧ kd ≤ 11 ∧ Cond.classLink (onm o) i (clC kd) ∈ bigW ∧ Cond.instantiable (clC kd) (clN kd) ∈ bigW ∧ Cond.initialized (clC kd) ∈ bigW := by
  unfold nwc at h
  rw [Option.map_eq_some_iff] at h
  obtain ⟨e, he, h2⟩ := h
  obtain ⟨o', i', kd', ps⟩ := e
  have hm := List.mem_of_find?_eq_some he
  have hp := List.find?_some he
  simp only [Bool.and_eq_true, beq_iff_eq] at hp
  obtain ⟨rfl, rfl⟩ := hp
  cases h2
  have hc := List.all_eq_true.mp nwt_ok _ hm
  rcases ps with _ | ⟨p0, _ | ⟨p1, _ | ⟨p2, _ | ⟨_, _⟩⟩⟩⟩
  · cases hc
  · cases hc
  · cases hc
  · unfold nchk at hc
    simp only [Bool.and_eq_true, decide_eq_true_eq] at hc
    obtain ⟨c1, c2, c3, c4, c5⟩ := hc
    exact ⟨c1, c2, okw_in c3, okw_in c4, okw_in c5⟩
  · cases hc
theorem arr_words : Cond.arrayClass .int ∈ bigW ∧ Cond.arrayClass .long ∈ bigW ∧ Cond.arrayClass .byte ∈ bigW ∧ Cond.arrayClass .char ∈ bigW ∧ Cond.arrayClass .boolean ∈ bigW :=
  ⟨List.mem_filter.mpr ⟨by decide +kernel, rfl⟩, List.mem_filter.mpr ⟨by decide +kernel, rfl⟩, List.mem_filter.mpr ⟨by decide +kernel, rfl⟩, List.mem_filter.mpr ⟨by decide +kernel, rfl⟩, List.mem_filter.mpr ⟨by decide +kernel, rfl⟩⟩
theorem set_words : Cond.fieldLink "CoffeeThatSlops" 118 "CoffeeThatSlops" "LEAST_SETTINGS" "[I" ∈ bigW ∧ Cond.fieldLink "CoffeeThatSlops" 121 "CoffeeThatSlops" "MOST_SETTINGS" "[I" ∈ bigW :=
  ⟨List.mem_filter.mpr ⟨by decide +kernel, rfl⟩, List.mem_filter.mpr ⟨by decide +kernel, rfl⟩⟩
section NEWS
variable {d bc bs : Nat} {M : MI} {pc : Nat} {ls : List (Option AV)} {st : List AV} {μ : Mem} {Q : Option (Option AV) → Mem → Prop} {i : Nat}
theorem st_least (hd : decode (mcd M) pc = .ok (.getstatic 118, 3)) (h9 : mow M = 9) (k : Wp d bc bs M (pc + 3) ls (vr 2 :: st) μ Q) : Wp d bc bs M pc ls st μ Q :=
  Wp.step (fun {p l e R s m args below meth c H locs cells slots Qf G lm} hC hR _ _ w => by
    have hown := hC.2.2.2.1
    rw [h9] at hown
    exact va_gets (own := "CoffeeThatSlops") (ref := "CoffeeThatSlops") hC.1 hC.2.1 hC.2.2.2.2.2.1.2.2.1 hR.2.2.1 hown (hC.2.2.2.2.1 _ set_words.1) (fun x h => h) hd w) (fun _ _ h => oks_r h) k
theorem st_most (hd : decode (mcd M) pc = .ok (.getstatic 121, 3)) (h9 : mow M = 9) (k : Wp d bc bs M (pc + 3) ls (vr 3 :: st) μ Q) : Wp d bc bs M pc ls st μ Q :=
  Wp.step (fun {p l e R s m args below meth c H locs cells slots Qf G lm} hC hR _ _ w => by
    have hown := hC.2.2.2.1
    rw [h9] at hown
    exact va_gets (own := "CoffeeThatSlops") (ref := "CoffeeThatSlops") hC.1 hC.2.1 hC.2.2.2.2.2.1.2.2.2.1 hR.2.2.1 hown (hC.2.2.2.2.1 _ set_words.2) (fun x h => h) hd w) (fun _ _ h => oks_r h) k
theorem st_new {kd : Nat} (hd : decode (mcd M) pc = .ok (.new i, 3)) (hn : nwc (mow M) i = some kd) (hx : mX μ ≠ 0) (h1 : 1 ≤ bc) (h2 : clN kd ≤ bs) (k : Wp d (bc - 1) (bs - clN kd) M (pc + 3) ls (vr (mX μ) :: st) (nwM μ kd 0) Q) : Wp d bc bs M pc ls st μ Q := by
  intro p l e R s m args below meth c H locs cells slots Qf G lm hC hR hL hs hcl hsl hE
  obtain ⟨c1, c2, w1, w2, w3⟩ := nwc_ok hn
  obtain ⟨hxx, hb, hml, hown, hts, hS, -⟩ := id hC
  obtain ⟨x4, xH, xK⟩ := hR.2.2.2.1 hx
  have hc := cl_cl kd c1 c2
  have hKn := hS.1.1 (kd - 1) _ hc
  refine W.newcK (own := onm (mow M)) (C := clC kd) (n := clN kd) hxx hb hown (hts _ w1) (hts _ w2) (hts _ w3) rfl hd (by omega) (by omega) hKn.2.1 rfl fun H1 kC hkC e1 z1 o1 => ?_
  have hat : va_at (gD G) vwCl (gad G (mX μ), ent G (nwM μ kd 0) (mX μ)) H1 := by
    rw [ent_obj (kd := kd) (show mK (nwM μ kd 0) (mX μ) = kd from if_pos rfl) c2, ← xH]
    refine ⟨_, hc, (u_born (clY kd) hts (cl_in kd c1 c2) hKn hkC e1 (cl_ty kd c1 c2)).to (fun j hj => ?_)⟩
    show defaultValue (clY kd j) = vp_V (flds (gad G) (nwM μ kd 0) (mX μ) kd) j
    rw [flds_V hj]
    have ht := cl_tc kd c1 c2 j hj
    have e0 : mD (nwM μ kd 0) (mX μ) j = 0 := if_pos rfl
    have e9 : mR (nwM μ kd 0) (mX μ) j = 0 := if_pos rfl
    unfold fvl
    rw [e0, e9]
    by_cases z : tcd (clT kd j).2.2.1 = 2
    · rw [z] at ht ⊢
      rw [if_pos rfl, if_pos rfl]
      rcases tyok2 ht with ⟨n9, e⟩ | ⟨n9, e⟩ <;> rw [e] <;> rfl
    · rw [if_neg z]
      have z2 : tcd (clT kd j).2.2.1 = 0 ∨ tcd (clT kd j).2.2.1 = 1 := by
        unfold tcd at z ⊢
        split
        · exact Or.inl rfl
        · split
          · exact Or.inr rfl
          · rename_i q1 q2
            rw [if_neg q1, if_neg q2] at z
            exact absurd rfl z
      rcases z2 with z2 | z2 <;> rw [z2] at ht
      · rw [tyok0 ht]; rfl
      · rw [tyok1 ht]; rfl
  have hw := k p l e R s m args below meth c H1 locs (cells + 1) (slots + clN kd) Qf G lm hC (hR.new hx (by omega) (by omega) hat z1 o1) hL (oks_r hs) (by omega) (by omega) hE
  rw [List.map_cons, toV_ref x4, ← xH] at hw
  exact hw

theorem st_newI {n : Int} (hd : decode (mcd M) pc = .ok (.newarray .int, 2)) (hx : mX μ ≠ 0) (h0 : 0 ≤ n) (hn : n ≤ 100000) (h1 : 1 ≤ bc) (h2 : n ≤ bs) (k : Wp d (bc - 1) (bs - n.toNat) M (pc + 2) ls (vr (mX μ) :: st) (nwM μ 20 n.toNat) Q) : Wp d bc bs M pc ls (vi n :: st) μ Q := by
  intro p l e R s m args below meth c H locs cells slots Qf G lm hC hR hL hs hcl hsl hE
  obtain ⟨hxx, hb, hml, hown, hts, hS, -⟩ := id hC
  obtain ⟨x4, xH, xK⟩ := hR.2.2.2.1 hx
  have hnr := oks_h hs
  refine va_newaK (atype := .int) (N := n.toNat) hxx hb (hts _ arr_words.1) rfl hd rfl (fun q => by rw [i_0, i_lt hnr r32_0] at q; omega) (i_clamp hnr) (Nat.le_trans (Nat.mul_le_mul (show n.toNat ≤ 100000 by omega) (show componentBytes (newarray.typeOf .int) ≤ 8 by decide)) (by decide)) (by omega) (by omega) rfl fun H1 cA e1 z1 o1 hAr hNm => ?_
  have hcA : cA = gcy G 0 := by
    have h9 : s.vm.findClass ("[" ++ (FieldType.toString .int)) = some (gcy G 0) := (hS.1.2 0 _ rfl).2
    have h8 : s.vm.findClass ("[" ++ (FieldType.toString .int)) = some cA := hNm
    exact Option.some.inj (h8.symm.trans h9)
  have hat : va_at (gD G) vwCl (gad G (mX μ), ent G (nwM μ 20 n.toNat) (mX μ)) H1 := by
    rw [ent_i (k := 20) (show mK (nwM μ 20 n.toNat) (mX μ) = 20 from if_pos rfl) (by omega) (by omega) (by omega), ← xH]
    show H1[H.size]? = some (vp_cell _ _)
    rw [e1, hcA]
    have e0 : ∀ j : Int, mD (nwM μ 20 n.toNat) (mX μ) j = 0 := fun j => if_pos rfl
    have en : mN (nwM μ 20 n.toNat) (mX μ) = n.toNat := if_pos rfl
    rw [en]
    simp only [e0]
    rfl
  have hw := k p l e R s m args below meth c H1 locs (cells + 1) (slots + n.toNat) Qf G lm hC (hR.new hx (by omega) (by omega) hat z1 o1) hL (oks_r (oks_t hs)) (by omega) (by omega) hE
  rw [List.map_cons, toV_ref x4, ← xH] at hw
  exact hw

theorem st_newJ {n : Int} (hd : decode (mcd M) pc = .ok (.newarray .long, 2)) (hx : mX μ ≠ 0) (h0 : 0 ≤ n) (hn : n ≤ 100000) (h1 : 1 ≤ bc) (h2 : n ≤ bs) (k : Wp d (bc - 1) (bs - n.toNat) M (pc + 2) ls (vr (mX μ) :: st) (nwM μ 21 n.toNat) Q) : Wp d bc bs M pc ls (vi n :: st) μ Q := by
  intro p l e R s m args below meth c H locs cells slots Qf G lm hC hR hL hs hcl hsl hE
  obtain ⟨hxx, hb, hml, hown, hts, hS, -⟩ := id hC
  obtain ⟨x4, xH, xK⟩ := hR.2.2.2.1 hx
  have hnr := oks_h hs
  refine va_newaK (atype := .long) (N := n.toNat) hxx hb (hts _ arr_words.2.1) rfl hd rfl (fun q => by rw [i_0, i_lt hnr r32_0] at q; omega) (i_clamp hnr) (Nat.le_trans (Nat.mul_le_mul (show n.toNat ≤ 100000 by omega) (show componentBytes (newarray.typeOf .long) ≤ 8 by decide)) (by decide)) (by omega) (by omega) rfl fun H1 cA e1 z1 o1 hAr hNm => ?_
  have hcA : cA = gcy G 1 := by
    have h9 : s.vm.findClass ("[" ++ (FieldType.toString .long)) = some (gcy G 1) := (hS.1.2 1 _ rfl).2
    have h8 : s.vm.findClass ("[" ++ (FieldType.toString .long)) = some cA := hNm
    exact Option.some.inj (h8.symm.trans h9)
  have hat : va_at (gD G) vwCl (gad G (mX μ), ent G (nwM μ 21 n.toNat) (mX μ)) H1 := by
    rw [ent_l (show mK (nwM μ 21 n.toNat) (mX μ) = 21 from if_pos rfl), ← xH]
    show H1[H.size]? = some (vp_cell _ _)
    rw [e1, hcA]
    have e0 : ∀ j : Int, mD (nwM μ 21 n.toNat) (mX μ) j = 0 := fun j => if_pos rfl
    have en : mN (nwM μ 21 n.toNat) (mX μ) = n.toNat := if_pos rfl
    rw [en]
    simp only [e0]
    rfl
  have hw := k p l e R s m args below meth c H1 locs (cells + 1) (slots + n.toNat) Qf G lm hC (hR.new hx (by omega) (by omega) hat z1 o1) hL (oks_r (oks_t hs)) (by omega) (by omega) hE
  rw [List.map_cons, toV_ref x4, ← xH] at hw
  exact hw

theorem st_newB {n : Int} (hd : decode (mcd M) pc = .ok (.newarray .byte, 2)) (hx : mX μ ≠ 0) (h0 : 0 ≤ n) (hn : n ≤ 100000) (h1 : 1 ≤ bc) (h2 : n ≤ bs) (k : Wp d (bc - 1) (bs - n.toNat) M (pc + 2) ls (vr (mX μ) :: st) (nwM μ 22 n.toNat) Q) : Wp d bc bs M pc ls (vi n :: st) μ Q := by
  intro p l e R s m args below meth c H locs cells slots Qf G lm hC hR hL hs hcl hsl hE
  obtain ⟨hxx, hb, hml, hown, hts, hS, -⟩ := id hC
  obtain ⟨x4, xH, xK⟩ := hR.2.2.2.1 hx
  have hnr := oks_h hs
  refine va_newaK (atype := .byte) (N := n.toNat) hxx hb (hts _ arr_words.2.2.1) rfl hd rfl (fun q => by rw [i_0, i_lt hnr r32_0] at q; omega) (i_clamp hnr) (Nat.le_trans (Nat.mul_le_mul (show n.toNat ≤ 100000 by omega) (show componentBytes (newarray.typeOf .byte) ≤ 8 by decide)) (by decide)) (by omega) (by omega) rfl fun H1 cA e1 z1 o1 hAr hNm => ?_
  have hcA : cA = gcy G 2 := by
    have h9 : s.vm.findClass ("[" ++ (FieldType.toString .byte)) = some (gcy G 2) := (hS.1.2 2 _ rfl).2
    have h8 : s.vm.findClass ("[" ++ (FieldType.toString .byte)) = some cA := hNm
    exact Option.some.inj (h8.symm.trans h9)
  have hat : va_at (gD G) vwCl (gad G (mX μ), ent G (nwM μ 22 n.toNat) (mX μ)) H1 := by
    rw [ent_i (k := 22) (show mK (nwM μ 22 n.toNat) (mX μ) = 22 from if_pos rfl) (by omega) (by omega) (by omega), ← xH]
    show H1[H.size]? = some (vp_cell _ _)
    rw [e1, hcA]
    have e0 : ∀ j : Int, mD (nwM μ 22 n.toNat) (mX μ) j = 0 := fun j => if_pos rfl
    have en : mN (nwM μ 22 n.toNat) (mX μ) = n.toNat := if_pos rfl
    rw [en]
    simp only [e0]
    rfl
  have hw := k p l e R s m args below meth c H1 locs (cells + 1) (slots + n.toNat) Qf G lm hC (hR.new hx (by omega) (by omega) hat z1 o1) hL (oks_r (oks_t hs)) (by omega) (by omega) hE
  rw [List.map_cons, toV_ref x4, ← xH] at hw
  exact hw

theorem st_newC {n : Int} (hd : decode (mcd M) pc = .ok (.newarray .char, 2)) (hx : mX μ ≠ 0) (h0 : 0 ≤ n) (hn : n ≤ 100000) (h1 : 1 ≤ bc) (h2 : n ≤ bs) (k : Wp d (bc - 1) (bs - n.toNat) M (pc + 2) ls (vr (mX μ) :: st) (nwM μ 23 n.toNat) Q) : Wp d bc bs M pc ls (vi n :: st) μ Q := by
  intro p l e R s m args below meth c H locs cells slots Qf G lm hC hR hL hs hcl hsl hE
  obtain ⟨hxx, hb, hml, hown, hts, hS, -⟩ := id hC
  obtain ⟨x4, xH, xK⟩ := hR.2.2.2.1 hx
  have hnr := oks_h hs
  refine va_newaK (atype := .char) (N := n.toNat) hxx hb (hts _ arr_words.2.2.2.1) rfl hd rfl (fun q => by rw [i_0, i_lt hnr r32_0] at q; omega) (i_clamp hnr) (Nat.le_trans (Nat.mul_le_mul (show n.toNat ≤ 100000 by omega) (show componentBytes (newarray.typeOf .char) ≤ 8 by decide)) (by decide)) (by omega) (by omega) rfl fun H1 cA e1 z1 o1 hAr hNm => ?_
  have hcA : cA = gcy G 3 := by
    have h9 : s.vm.findClass ("[" ++ (FieldType.toString .char)) = some (gcy G 3) := (hS.1.2 3 _ rfl).2
    have h8 : s.vm.findClass ("[" ++ (FieldType.toString .char)) = some cA := hNm
    exact Option.some.inj (h8.symm.trans h9)
  have hat : va_at (gD G) vwCl (gad G (mX μ), ent G (nwM μ 23 n.toNat) (mX μ)) H1 := by
    rw [ent_i (k := 23) (show mK (nwM μ 23 n.toNat) (mX μ) = 23 from if_pos rfl) (by omega) (by omega) (by omega), ← xH]
    show H1[H.size]? = some (vp_cell _ _)
    rw [e1, hcA]
    have e0 : ∀ j : Int, mD (nwM μ 23 n.toNat) (mX μ) j = 0 := fun j => if_pos rfl
    have en : mN (nwM μ 23 n.toNat) (mX μ) = n.toNat := if_pos rfl
    rw [en]
    simp only [e0]
    rfl
  have hw := k p l e R s m args below meth c H1 locs (cells + 1) (slots + n.toNat) Qf G lm hC (hR.new hx (by omega) (by omega) hat z1 o1) hL (oks_r (oks_t hs)) (by omega) (by omega) hE
  rw [List.map_cons, toV_ref x4, ← xH] at hw
  exact hw

theorem st_newZ {n : Int} (hd : decode (mcd M) pc = .ok (.newarray .boolean, 2)) (hx : mX μ ≠ 0) (h0 : 0 ≤ n) (hn : n ≤ 100000) (h1 : 1 ≤ bc) (h2 : n ≤ bs) (k : Wp d (bc - 1) (bs - n.toNat) M (pc + 2) ls (vr (mX μ) :: st) (nwM μ 24 n.toNat) Q) : Wp d bc bs M pc ls (vi n :: st) μ Q := by
  intro p l e R s m args below meth c H locs cells slots Qf G lm hC hR hL hs hcl hsl hE
  obtain ⟨hxx, hb, hml, hown, hts, hS, -⟩ := id hC
  obtain ⟨x4, xH, xK⟩ := hR.2.2.2.1 hx
  have hnr := oks_h hs
  refine va_newaK (atype := .boolean) (N := n.toNat) hxx hb (hts _ arr_words.2.2.2.2) rfl hd rfl (fun q => by rw [i_0, i_lt hnr r32_0] at q; omega) (i_clamp hnr) (Nat.le_trans (Nat.mul_le_mul (show n.toNat ≤ 100000 by omega) (show componentBytes (newarray.typeOf .boolean) ≤ 8 by decide)) (by decide)) (by omega) (by omega) rfl fun H1 cA e1 z1 o1 hAr hNm => ?_
  have hcA : cA = gcy G 4 := by
    have h9 : s.vm.findClass ("[" ++ (FieldType.toString .boolean)) = some (gcy G 4) := (hS.1.2 4 _ rfl).2
    have h8 : s.vm.findClass ("[" ++ (FieldType.toString .boolean)) = some cA := hNm
    exact Option.some.inj (h8.symm.trans h9)
  have hat : va_at (gD G) vwCl (gad G (mX μ), ent G (nwM μ 24 n.toNat) (mX μ)) H1 := by
    rw [ent_i (k := 24) (show mK (nwM μ 24 n.toNat) (mX μ) = 24 from if_pos rfl) (by omega) (by omega) (by omega), ← xH]
    show H1[H.size]? = some (vp_cell _ _)
    rw [e1, hcA]
    have e0 : ∀ j : Int, mD (nwM μ 24 n.toNat) (mX μ) j = 0 := fun j => if_pos rfl
    have en : mN (nwM μ 24 n.toNat) (mX μ) = n.toNat := if_pos rfl
    rw [en]
    simp only [e0]
    rfl
  have hw := k p l e R s m args below meth c H1 locs (cells + 1) (slots + n.toNat) Qf G lm hC (hR.new hx (by omega) (by omega) hat z1 o1) hL (oks_r (oks_t hs)) (by omega) (by omega) hE
  rw [List.map_cons, toV_ref x4, ← xH] at hw
  exact hw

theorem st_anewS {n : Int} (hd : decode (mcd M) pc = .ok (.anewarray i, 3)) (hc : nwc (mow M) i = some 6) (hx : mX μ ≠ 0) (h0 : 0 ≤ n) (hn : n ≤ 100000) (h1 : 1 ≤ bc) (h2 : n ≤ bs) (k : Wp d (bc - 1) (bs - n.toNat) M (pc + 3) ls (vr (mX μ) :: st) (nwM μ 25 n.toNat) Q) : Wp d bc bs M pc ls (vi n :: st) μ Q := by
  intro p l e R s m args below meth c H locs cells slots Qf G lm hC hR hL hs hcl hsl hE
  obtain ⟨hxx, hb, hml, hown, hts, hS, -⟩ := id hC
  obtain ⟨x4, xH, xK⟩ := hR.2.2.2.1 hx
  obtain ⟨-, -, w1, -, -⟩ := nwc_ok hc
  have hnr := oks_h hs
  have hcn := i_clamp hnr
  refine W.anew (own := onm (mow M)) (C := "CoffeeThatSlops$State") hxx hb hown (hts _ w1) (va_AO.use hS.2.2.2.2.2.2.2.1) rfl hd rfl (fun q => by rw [i_0, i_lt hnr r32_0] at q; omega) (by rw [hcn]; omega) (by omega) (by rw [hcn]; omega) fun cA kA comp f1 f2 f3 f4 => ?_
  rw [hcn]
  generalize hH1 : H.push ({ cls := cA, slots := Array.replicate n.toNat .null, vm := .none } : Cell) = H1
  have z1 : H1.size = H.size + 1 := by rw [← hH1, Array.size_push]
  have e1 : H1[H.size]? = some (arrV cA n.toNat (fun _ => .null)) := by rw [← hH1, Array.getElem?_push_size, ← arrV_new]
  have o1 : ∀ q : Nat, q < H.size → H1[q]? = H[q]? := fun q hq => by rw [← hH1, Array.getElem?_push, if_neg (Nat.ne_of_lt hq)]
  have hcA : cA = gcy G 5 := by
    obtain ⟨_, _, -, -, -, h9⟩ := (hS.1.2 5 _ rfl).2
    exact Option.some.inj (f1.symm.trans h9)
  have hat : va_at (gD G) vwCl (gad G (mX μ), ent G (nwM μ 25 n.toNat) (mX μ)) H1 := by
    rw [ent_r (k := 25) (show mK (nwM μ 25 n.toNat) (mX μ) = 25 from if_pos rfl) (by omega), ← xH]
    show H1[H.size]? = some (vp_cell _ _)
    rw [e1, hcA]
    have e0 : ∀ j : Int, mR (nwM μ 25 n.toNat) (mX μ) j = 0 := fun j => if_pos rfl
    have en : mN (nwM μ 25 n.toNat) (mX μ) = n.toNat := if_pos rfl
    rw [en]
    simp only [e0]
    rfl
  have hw := k p l e R s m args below meth c H1 locs (cells + 1) (slots + n.toNat) Qf G lm hC (hR.new hx (by omega) (by omega) hat z1 o1) hL (oks_r (oks_t hs)) (by omega) (by omega) hE
  rw [List.map_cons, toV_ref x4, ← xH] at hw
  exact hw

theorem st_anewW {n : Int} (hd : decode (mcd M) pc = .ok (.anewarray i, 3)) (hc : nwc (mow M) i = some 9) (hx : mX μ ≠ 0) (h0 : 0 ≤ n) (hn : n ≤ 100000) (h1 : 1 ≤ bc) (h2 : n ≤ bs) (k : Wp d (bc - 1) (bs - n.toNat) M (pc + 3) ls (vr (mX μ) :: st) (nwM μ 26 n.toNat) Q) : Wp d bc bs M pc ls (vi n :: st) μ Q := by
  intro p l e R s m args below meth c H locs cells slots Qf G lm hC hR hL hs hcl hsl hE
  obtain ⟨hxx, hb, hml, hown, hts, hS, -⟩ := id hC
  obtain ⟨x4, xH, xK⟩ := hR.2.2.2.1 hx
  obtain ⟨-, -, w1, -, -⟩ := nwc_ok hc
  have hnr := oks_h hs
  have hcn := i_clamp hnr
  refine W.anew (own := onm (mow M)) (C := "CoffeeThatSlops$Walk") hxx hb hown (hts _ w1) (va_AO.use hS.2.2.2.2.2.2.2.2.1) rfl hd rfl (fun q => by rw [i_0, i_lt hnr r32_0] at q; omega) (by rw [hcn]; omega) (by omega) (by rw [hcn]; omega) fun cA kA comp f1 f2 f3 f4 => ?_
  rw [hcn]
  generalize hH1 : H.push ({ cls := cA, slots := Array.replicate n.toNat .null, vm := .none } : Cell) = H1
  have z1 : H1.size = H.size + 1 := by rw [← hH1, Array.size_push]
  have e1 : H1[H.size]? = some (arrV cA n.toNat (fun _ => .null)) := by rw [← hH1, Array.getElem?_push_size, ← arrV_new]
  have o1 : ∀ q : Nat, q < H.size → H1[q]? = H[q]? := fun q hq => by rw [← hH1, Array.getElem?_push, if_neg (Nat.ne_of_lt hq)]
  have hcA : cA = gcy G 6 := by
    obtain ⟨_, _, -, -, -, h9⟩ := (hS.1.2 6 _ rfl).2
    exact Option.some.inj (f1.symm.trans h9)
  have hat : va_at (gD G) vwCl (gad G (mX μ), ent G (nwM μ 26 n.toNat) (mX μ)) H1 := by
    rw [ent_r (k := 26) (show mK (nwM μ 26 n.toNat) (mX μ) = 26 from if_pos rfl) (by omega), ← xH]
    show H1[H.size]? = some (vp_cell _ _)
    rw [e1, hcA]
    have e0 : ∀ j : Int, mR (nwM μ 26 n.toNat) (mX μ) j = 0 := fun j => if_pos rfl
    have en : mN (nwM μ 26 n.toNat) (mX μ) = n.toNat := if_pos rfl
    rw [en]
    simp only [e0]
    rfl
  have hw := k p l e R s m args below meth c H1 locs (cells + 1) (slots + n.toNat) Qf G lm hC (hR.new hx (by omega) (by omega) hat z1 o1) hL (oks_r (oks_t hs)) (by omega) (by omega) hE
  rw [List.map_cons, toV_ref x4, ← xH] at hw
  exact hw

theorem st_anewL {n : Int} (hd : decode (mcd M) pc = .ok (.anewarray i, 3)) (hc : nwc (mow M) i = some 3) (hx : mX μ ≠ 0) (h0 : 0 ≤ n) (hn : n ≤ 100000) (h1 : 1 ≤ bc) (h2 : n ≤ bs) (k : Wp d (bc - 1) (bs - n.toNat) M (pc + 3) ls (vr (mX μ) :: st) (nwM μ 27 n.toNat) Q) : Wp d bc bs M pc ls (vi n :: st) μ Q := by
  intro p l e R s m args below meth c H locs cells slots Qf G lm hC hR hL hs hcl hsl hE
  obtain ⟨hxx, hb, hml, hown, hts, hS, -⟩ := id hC
  obtain ⟨x4, xH, xK⟩ := hR.2.2.2.1 hx
  obtain ⟨-, -, w1, -, -⟩ := nwc_ok hc
  have hnr := oks_h hs
  have hcn := i_clamp hnr
  refine W.anew (own := onm (mow M)) (C := "CoffeeThatSlops$Law") hxx hb hown (hts _ w1) (va_AO.use hS.2.2.2.2.2.2.2.2.2.1) rfl hd rfl (fun q => by rw [i_0, i_lt hnr r32_0] at q; omega) (by rw [hcn]; omega) (by omega) (by rw [hcn]; omega) fun cA kA comp f1 f2 f3 f4 => ?_
  rw [hcn]
  generalize hH1 : H.push ({ cls := cA, slots := Array.replicate n.toNat .null, vm := .none } : Cell) = H1
  have z1 : H1.size = H.size + 1 := by rw [← hH1, Array.size_push]
  have e1 : H1[H.size]? = some (arrV cA n.toNat (fun _ => .null)) := by rw [← hH1, Array.getElem?_push_size, ← arrV_new]
  have o1 : ∀ q : Nat, q < H.size → H1[q]? = H[q]? := fun q hq => by rw [← hH1, Array.getElem?_push, if_neg (Nat.ne_of_lt hq)]
  have hcA : cA = gcy G 7 := by
    obtain ⟨_, _, -, -, -, h9⟩ := (hS.1.2 7 _ rfl).2
    exact Option.some.inj (f1.symm.trans h9)
  have hat : va_at (gD G) vwCl (gad G (mX μ), ent G (nwM μ 27 n.toNat) (mX μ)) H1 := by
    rw [ent_r (k := 27) (show mK (nwM μ 27 n.toNat) (mX μ) = 27 from if_pos rfl) (by omega), ← xH]
    show H1[H.size]? = some (vp_cell _ _)
    rw [e1, hcA]
    have e0 : ∀ j : Int, mR (nwM μ 27 n.toNat) (mX μ) j = 0 := fun j => if_pos rfl
    have en : mN (nwM μ 27 n.toNat) (mX μ) = n.toNat := if_pos rfl
    rw [en]
    simp only [e0]
    rfl
  have hw := k p l e R s m args below meth c H1 locs (cells + 1) (slots + n.toNat) Qf G lm hC (hR.new hx (by omega) (by omega) hat z1 o1) hL (oks_r (oks_t hs)) (by omega) (by omega) hE
  rw [List.map_cons, toV_ref x4, ← xH] at hw
  exact hw

end NEWS