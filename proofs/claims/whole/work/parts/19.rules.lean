/-! ===== by program (wip/whole/gen_rules.py): the steps in the form of the laid segments ===== -/
def KI (K : Int → Mem → Prop) : Option (Option AV) → Mem → Prop := fun r m => ∃ x, r = some (some (vi x)) ∧ K x m
def KL (K : Int → Mem → Prop) : Option (Option AV) → Mem → Prop := fun r m => ∃ x, r = some (some (vl x)) ∧ K x m
def KR (K : Nat → Mem → Prop) : Option (Option AV) → Mem → Prop := fun r m => ∃ x, r = some (some (vr x)) ∧ K x m
def KV (K : Mem → Prop) : Option (Option AV) → Mem → Prop := fun r m => r = some none ∧ K m
section RULES
variable {d bc bs : Nat} {M M' : MI} {pc i na mc ms : Nat} {ls ls' : List (Option AV)} {st av S : List AV} {μ : Mem} {Q : Option (Option AV) → Mem → Prop}
theorem Wp.drop (n : Nat) (hs : ls.set n none = ls') (k : Wp d bc bs M pc ls' st μ Q) : Wp d bc bs M pc ls st μ Q := by
  intro p l e R s m args below meth c H locs cells slots Qf G lm hC hR hL hs' hc hsl hE
  refine k p l e R s m args below meth c H locs cells slots Qf G lm hC hR ?_ hs' hc hsl hE
  obtain ⟨h1, h2, h3, h4⟩ := hL
  subst hs
  refine ⟨by rw [List.length_set]; exact h1, h2, h3, fun j v hj => h4 j v ?_⟩
  by_cases e : n = j
  · subst e
    have hl : n < (ls.set n none).length := (List.getElem?_eq_some_iff.mp hj).1
    rw [List.length_set] at hl
    rw [List.getElem?_set_self hl] at hj
    cases hj
  · rw [List.getElem?_set_ne e] at hj
    exact hj
theorem sg_gfI {kd j tc a : Nat} {J : Int} {fin : Bool} (hd : decode (mcd M) pc = .ok (.getfield i, 3)) (hf : fld (mow M) i = some (kd, j, tc, fin)) (ht : tc ≠ 2) (hJ : (j : Int) = J) (hk : mK μ a = kd) (k : Wp d bc bs M (pc + 3) ls (vi (mD μ a J) :: st) μ Q) : Wp d bc bs M pc ls (vr a :: st) μ Q := by
  subst hJ
  refine st_getfield hd hf hk ?_
  rw [show fav μ a tc j = vi (mD μ a j) from if_neg ht]
  exact k
theorem sg_gfR {kd j a : Nat} {J : Int} {fin : Bool} (hd : decode (mcd M) pc = .ok (.getfield i, 3)) (hf : fld (mow M) i = some (kd, j, 2, fin)) (hJ : (j : Int) = J) (hk : mK μ a = kd) (k : Wp d bc bs M (pc + 3) ls (vr (mR μ a J) :: st) μ Q) : Wp d bc bs M pc ls (vr a :: st) μ Q := by
  subst hJ
  refine st_getfield hd hf hk ?_
  rw [show fav μ a 2 j = vr (mR μ a j) from if_pos rfl]
  exact k
theorem sg_pfI {kd j a : Nat} {J x : Int} {fin : Bool} (hd : decode (mcd M) pc = .ok (.putfield i, 3)) (hf : fld (mow M) i = some (kd, j, 0, fin)) (hJ : (j : Int) = J) (hfin : fin = false ∨ (mkd M = 1 ∧ onm (mow M) = clC kd)) (hk : mK μ a = kd) (k : Wp d bc bs M (pc + 3) ls st (sD μ a J x) Q) : Wp d bc bs M pc ls (vi x :: vr a :: st) μ Q := by
  subst hJ
  exact st_putfield hd hf hk (Or.inl rfl) hfin k
theorem sg_pfZ {kd j a : Nat} {J x : Int} {fin : Bool} (hd : decode (mcd M) pc = .ok (.putfield i, 3)) (hf : fld (mow M) i = some (kd, j, 1, fin)) (hJ : (j : Int) = J) (hfin : fin = false ∨ (mkd M = 1 ∧ onm (mow M) = clC kd)) (hx : x = 0 ∨ x = 1) (hk : mK μ a = kd) (k : Wp d bc bs M (pc + 3) ls st (sD μ a J x) Q) : Wp d bc bs M pc ls (vi x :: vr a :: st) μ Q := by
  subst hJ
  exact st_putfield hd hf hk (Or.inr ⟨rfl, hx⟩) hfin k
theorem sg_pfR {kd j a b : Nat} {J : Int} {fin : Bool} (hd : decode (mcd M) pc = .ok (.putfield i, 3)) (hf : fld (mow M) i = some (kd, j, 2, fin)) (hJ : (j : Int) = J) (hfin : fin = false ∨ (mkd M = 1 ∧ onm (mow M) = clC kd)) (hk : mK μ a = kd) (k : Wp d bc bs M (pc + 3) ls st (sR μ a J b) Q) : Wp d bc bs M pc ls (vr b :: vr a :: st) μ Q := by
  subst hJ
  exact st_putfield hd hf hk rfl hfin k
theorem sg_iaload {a : Nat} {j : Int} (hd : decode (mcd M) pc = .ok (.iaload, 1)) (hk : mK μ a = 20 ∨ (a ≠ 0 ∧ mK μ a = 40)) (h : 0 ≤ j ∧ j < mN μ a) (k : Wp d bc bs M (pc + 1) ls (vi (mD μ a j) :: st) μ Q) : Wp d bc bs M pc ls (vi j :: vr a :: st) μ Q := by
  rcases hk with hk | ⟨h0, hk⟩
  · exact st_iaload hd hk h.1 h.2 k
  · exact st_xaload hd h0 hk h.1 h.2 k
theorem sg_alen {a : Nat} (hd : decode (mcd M) pc = .ok (.arraylength, 1)) (hk : (20 ≤ mK μ a ∧ mK μ a ≤ 28) ∨ (a ≠ 0 ∧ mK μ a = 40)) (k : Wp d bc bs M (pc + 1) ls (vi (mN μ a) :: st) μ Q) : Wp d bc bs M pc ls (vr a :: st) μ Q := by
  rcases hk with ⟨h1, h2⟩ | ⟨h0, hk⟩
  · exact st_alen hd h1 h2 k
  · exact st_xlen hd h0 hk k
theorem sg_istore_n {n : Fin 4} {j : Nat} {x : Int} (hd : decode (mcd M) pc = .ok (.istore_n n, 1)) (hi : (n : Nat) = j) (hl : j < ls.length) (hs : sto ls j (vi x) = ls') (k : Wp d bc bs M (pc + 1) ls' st μ Q) : Wp d bc bs M pc ls (vi x :: st) μ Q := by
  subst hs
  exact st_istore_n hd hi hl k
theorem sg_istore {j : Nat} {x : Int} (hd : decode (mcd M) pc = .ok (.istore j, 2)) (hl : j < ls.length) (hs : sto ls j (vi x) = ls') (k : Wp d bc bs M (pc + 2) ls' st μ Q) : Wp d bc bs M pc ls (vi x :: st) μ Q := by
  subst hs
  exact st_istore hd hl k
theorem sg_astore_n {n : Fin 4} {j : Nat} {x : Nat} (hd : decode (mcd M) pc = .ok (.astore_n n, 1)) (hi : (n : Nat) = j) (hl : j < ls.length) (hs : sto ls j (vr x) = ls') (k : Wp d bc bs M (pc + 1) ls' st μ Q) : Wp d bc bs M pc ls (vr x :: st) μ Q := by
  subst hs
  exact st_astore_n hd hi hl k
theorem sg_astore {j : Nat} {x : Nat} (hd : decode (mcd M) pc = .ok (.astore j, 2)) (hl : j < ls.length) (hs : sto ls j (vr x) = ls') (k : Wp d bc bs M (pc + 2) ls' st μ Q) : Wp d bc bs M pc ls (vr x :: st) μ Q := by
  subst hs
  exact st_astore hd hl k
theorem sg_lstore_n {n : Fin 4} {j : Nat} {x : Int} (hd : decode (mcd M) pc = .ok (.lstore_n n, 1)) (hi : (n : Nat) = j) (hl : j + 1 < ls.length) (hs : sto2 ls j (vl x) = ls') (k : Wp d bc bs M (pc + 1) ls' st μ Q) : Wp d bc bs M pc ls (vl x :: st) μ Q := by
  subst hs
  exact st_lstore_n hd hi hl k
theorem sg_lstore {j : Nat} {x : Int} (hd : decode (mcd M) pc = .ok (.lstore j, 2)) (hl : j + 1 < ls.length) (hs : sto2 ls j (vl x) = ls') (k : Wp d bc bs M (pc + 2) ls' st μ Q) : Wp d bc bs M pc ls (vl x :: st) μ Q := by
  subst hs
  exact st_lstore hd hl k
theorem sg_iinc {j : Nat} {n x : Int} (hd : decode (mcd M) pc = .ok (.iinc j n, 3)) (hl : ls[j]? = some (some (vi x))) (hs : sto ls j (vi (w32 (x + n))) = ls') (k : Wp d bc bs M (pc + 3) ls' st μ Q) : Wp d bc bs M pc ls st μ Q := by
  subst hs
  exact st_iinc hd hl k
theorem sg_VI {b : Nat} {K : Int → Mem → Prop} (hd : decode (mcd M) pc = .ok (.invokevirtual i, 3)) (hc : cal (mow M) i = some (0, na, M')) (hn : av.length + 1 = na) (h10 : mow M' ≤ 10) (hb : mK μ b = mow M' + 1) (hst : csum st ≤ 8) (hC : Cl d mc ms M' (vr b :: av) μ (KI K)) (hmc : mc ≤ bc) (hms : ms ≤ bs) (k : ∀ x μ', K x μ' → Wp (d + 1) (bc - mc) (bs - ms) M (pc + 3) ls (vi x :: st) μ' Q) (hS : S = av.reverse ++ vr b :: st) : Wp (d + 1) bc bs M pc ls S μ Q := by
  subst hS
  refine st_callV hd hc hn h10 hb hst hC hmc hms (fun _ h => ?_) (fun r μ' h => ?_)
  · obtain ⟨x, e, hx⟩ := h
    cases e
  · obtain ⟨x, e, hx⟩ := h
    cases e
    exact k x μ' hx
theorem sg_VL {b : Nat} {K : Int → Mem → Prop} (hd : decode (mcd M) pc = .ok (.invokevirtual i, 3)) (hc : cal (mow M) i = some (0, na, M')) (hn : av.length + 1 = na) (h10 : mow M' ≤ 10) (hb : mK μ b = mow M' + 1) (hst : csum st ≤ 8) (hC : Cl d mc ms M' (vr b :: av) μ (KL K)) (hmc : mc ≤ bc) (hms : ms ≤ bs) (k : ∀ x μ', K x μ' → Wp (d + 1) (bc - mc) (bs - ms) M (pc + 3) ls (vl x :: st) μ' Q) (hS : S = av.reverse ++ vr b :: st) : Wp (d + 1) bc bs M pc ls S μ Q := by
  subst hS
  refine st_callV hd hc hn h10 hb hst hC hmc hms (fun _ h => ?_) (fun r μ' h => ?_)
  · obtain ⟨x, e, hx⟩ := h
    cases e
  · obtain ⟨x, e, hx⟩ := h
    cases e
    exact k x μ' hx
theorem sg_VR {b : Nat} {K : Nat → Mem → Prop} (hd : decode (mcd M) pc = .ok (.invokevirtual i, 3)) (hc : cal (mow M) i = some (0, na, M')) (hn : av.length + 1 = na) (h10 : mow M' ≤ 10) (hb : mK μ b = mow M' + 1) (hst : csum st ≤ 8) (hC : Cl d mc ms M' (vr b :: av) μ (KR K)) (hmc : mc ≤ bc) (hms : ms ≤ bs) (k : ∀ x μ', K x μ' → Wp (d + 1) (bc - mc) (bs - ms) M (pc + 3) ls (vr x :: st) μ' Q) (hS : S = av.reverse ++ vr b :: st) : Wp (d + 1) bc bs M pc ls S μ Q := by
  subst hS
  refine st_callV hd hc hn h10 hb hst hC hmc hms (fun _ h => ?_) (fun r μ' h => ?_)
  · obtain ⟨x, e, hx⟩ := h
    cases e
  · obtain ⟨x, e, hx⟩ := h
    cases e
    exact k x μ' hx
theorem sg_VV {b : Nat} {K : Mem → Prop} (hd : decode (mcd M) pc = .ok (.invokevirtual i, 3)) (hc : cal (mow M) i = some (0, na, M')) (hn : av.length + 1 = na) (h10 : mow M' ≤ 10) (hb : mK μ b = mow M' + 1) (hst : csum st ≤ 8) (hC : Cl d mc ms M' (vr b :: av) μ (KV K)) (hmc : mc ≤ bc) (hms : ms ≤ bs) (k : ∀ μ', K μ' → Wp (d + 1) (bc - mc) (bs - ms) M (pc + 3) ls st μ' Q) (hS : S = av.reverse ++ vr b :: st) : Wp (d + 1) bc bs M pc ls S μ Q := by
  subst hS
  refine st_callV hd hc hn h10 hb hst hC hmc hms (fun _ h => ?_) (fun r μ' h => ?_)
  · cases h.1
  · obtain ⟨e, hx⟩ := h
    cases e
    exact k μ' hx
theorem sg_SI {K : Int → Mem → Prop} (hd : decode (mcd M) pc = .ok (.invokestatic i, 3)) (hc : cal (mow M) i = some (1, na, M')) (hn : av.length = na) (hst : csum st ≤ 8) (hC : Cl d mc ms M' (av) μ (KI K)) (hmc : mc ≤ bc) (hms : ms ≤ bs) (k : ∀ x μ', K x μ' → Wp (d + 1) (bc - mc) (bs - ms) M (pc + 3) ls (vi x :: st) μ' Q) (hS : S = av.reverse ++ st) : Wp (d + 1) bc bs M pc ls S μ Q := by
  subst hS
  refine st_callS hd hc hn hst hC hmc hms (fun _ h => ?_) (fun r μ' h => ?_)
  · obtain ⟨x, e, hx⟩ := h
    cases e
  · obtain ⟨x, e, hx⟩ := h
    cases e
    exact k x μ' hx
theorem sg_SL {K : Int → Mem → Prop} (hd : decode (mcd M) pc = .ok (.invokestatic i, 3)) (hc : cal (mow M) i = some (1, na, M')) (hn : av.length = na) (hst : csum st ≤ 8) (hC : Cl d mc ms M' (av) μ (KL K)) (hmc : mc ≤ bc) (hms : ms ≤ bs) (k : ∀ x μ', K x μ' → Wp (d + 1) (bc - mc) (bs - ms) M (pc + 3) ls (vl x :: st) μ' Q) (hS : S = av.reverse ++ st) : Wp (d + 1) bc bs M pc ls S μ Q := by
  subst hS
  refine st_callS hd hc hn hst hC hmc hms (fun _ h => ?_) (fun r μ' h => ?_)
  · obtain ⟨x, e, hx⟩ := h
    cases e
  · obtain ⟨x, e, hx⟩ := h
    cases e
    exact k x μ' hx
theorem sg_SR {K : Nat → Mem → Prop} (hd : decode (mcd M) pc = .ok (.invokestatic i, 3)) (hc : cal (mow M) i = some (1, na, M')) (hn : av.length = na) (hst : csum st ≤ 8) (hC : Cl d mc ms M' (av) μ (KR K)) (hmc : mc ≤ bc) (hms : ms ≤ bs) (k : ∀ x μ', K x μ' → Wp (d + 1) (bc - mc) (bs - ms) M (pc + 3) ls (vr x :: st) μ' Q) (hS : S = av.reverse ++ st) : Wp (d + 1) bc bs M pc ls S μ Q := by
  subst hS
  refine st_callS hd hc hn hst hC hmc hms (fun _ h => ?_) (fun r μ' h => ?_)
  · obtain ⟨x, e, hx⟩ := h
    cases e
  · obtain ⟨x, e, hx⟩ := h
    cases e
    exact k x μ' hx
theorem sg_SV {K : Mem → Prop} (hd : decode (mcd M) pc = .ok (.invokestatic i, 3)) (hc : cal (mow M) i = some (1, na, M')) (hn : av.length = na) (hst : csum st ≤ 8) (hC : Cl d mc ms M' (av) μ (KV K)) (hmc : mc ≤ bc) (hms : ms ≤ bs) (k : ∀ μ', K μ' → Wp (d + 1) (bc - mc) (bs - ms) M (pc + 3) ls st μ' Q) (hS : S = av.reverse ++ st) : Wp (d + 1) bc bs M pc ls S μ Q := by
  subst hS
  refine st_callS hd hc hn hst hC hmc hms (fun _ h => ?_) (fun r μ' h => ?_)
  · cases h.1
  · obtain ⟨e, hx⟩ := h
    cases e
    exact k μ' hx
theorem sg_SNI {K : Int → Mem → Prop} (hd : decode (mcd M) pc = .ok (.invokestatic i, 3)) (hc : cal (mow M) i = some (4, na, M')) (hn : av.length = na) (hst : csum st ≤ 8) (hC : Cl d mc ms M' (av) μ (KI K)) (hmc : mc ≤ bc) (hms : ms ≤ bs) (k : ∀ x μ', K x μ' → Wp (d + 1) (bc - mc) (bs - ms) M (pc + 3) ls (vi x :: st) μ' Q) (hS : S = av.reverse ++ st) : Wp (d + 1) bc bs M pc ls S μ Q := by
  subst hS
  refine st_callSN hd hc hn hst hC hmc hms (fun _ h => ?_) (fun r μ' h => ?_)
  · obtain ⟨x, e, hx⟩ := h
    cases e
  · obtain ⟨x, e, hx⟩ := h
    cases e
    exact k x μ' hx
theorem sg_SNL {K : Int → Mem → Prop} (hd : decode (mcd M) pc = .ok (.invokestatic i, 3)) (hc : cal (mow M) i = some (4, na, M')) (hn : av.length = na) (hst : csum st ≤ 8) (hC : Cl d mc ms M' (av) μ (KL K)) (hmc : mc ≤ bc) (hms : ms ≤ bs) (k : ∀ x μ', K x μ' → Wp (d + 1) (bc - mc) (bs - ms) M (pc + 3) ls (vl x :: st) μ' Q) (hS : S = av.reverse ++ st) : Wp (d + 1) bc bs M pc ls S μ Q := by
  subst hS
  refine st_callSN hd hc hn hst hC hmc hms (fun _ h => ?_) (fun r μ' h => ?_)
  · obtain ⟨x, e, hx⟩ := h
    cases e
  · obtain ⟨x, e, hx⟩ := h
    cases e
    exact k x μ' hx
theorem sg_SNR {K : Nat → Mem → Prop} (hd : decode (mcd M) pc = .ok (.invokestatic i, 3)) (hc : cal (mow M) i = some (4, na, M')) (hn : av.length = na) (hst : csum st ≤ 8) (hC : Cl d mc ms M' (av) μ (KR K)) (hmc : mc ≤ bc) (hms : ms ≤ bs) (k : ∀ x μ', K x μ' → Wp (d + 1) (bc - mc) (bs - ms) M (pc + 3) ls (vr x :: st) μ' Q) (hS : S = av.reverse ++ st) : Wp (d + 1) bc bs M pc ls S μ Q := by
  subst hS
  refine st_callSN hd hc hn hst hC hmc hms (fun _ h => ?_) (fun r μ' h => ?_)
  · obtain ⟨x, e, hx⟩ := h
    cases e
  · obtain ⟨x, e, hx⟩ := h
    cases e
    exact k x μ' hx
theorem sg_SNV {K : Mem → Prop} (hd : decode (mcd M) pc = .ok (.invokestatic i, 3)) (hc : cal (mow M) i = some (4, na, M')) (hn : av.length = na) (hst : csum st ≤ 8) (hC : Cl d mc ms M' (av) μ (KV K)) (hmc : mc ≤ bc) (hms : ms ≤ bs) (k : ∀ μ', K μ' → Wp (d + 1) (bc - mc) (bs - ms) M (pc + 3) ls st μ' Q) (hS : S = av.reverse ++ st) : Wp (d + 1) bc bs M pc ls S μ Q := by
  subst hS
  refine st_callSN hd hc hn hst hC hmc hms (fun _ h => ?_) (fun r μ' h => ?_)
  · cases h.1
  · obtain ⟨e, hx⟩ := h
    cases e
    exact k μ' hx
theorem sg_HI {K : Int → Mem → Prop} (hd : decode (mcd M) pc = .ok (.invokestatic i, 3)) (hc : cal (mow M) i = some (8, na, M')) (hn : av.length = na) (hst : csum st ≤ 8) (hC : Cl d mc ms M' (av) μ (KI K)) (hmc : mc ≤ bc) (hms : ms ≤ bs) (k : ∀ x μ', K x μ' → Wp (d + 1) (bc - mc) (bs - ms) M (pc + 3) ls (vi x :: st) μ' Q) (hS : S = av.reverse ++ st) : Wp (d + 1) bc bs M pc ls S μ Q := by
  subst hS
  refine st_callH hd hc hn hst hC hmc hms (fun _ h => ?_) (fun r μ' h => ?_)
  · obtain ⟨x, e, hx⟩ := h
    cases e
  · obtain ⟨x, e, hx⟩ := h
    cases e
    exact k x μ' hx
theorem sg_HL {K : Int → Mem → Prop} (hd : decode (mcd M) pc = .ok (.invokestatic i, 3)) (hc : cal (mow M) i = some (8, na, M')) (hn : av.length = na) (hst : csum st ≤ 8) (hC : Cl d mc ms M' (av) μ (KL K)) (hmc : mc ≤ bc) (hms : ms ≤ bs) (k : ∀ x μ', K x μ' → Wp (d + 1) (bc - mc) (bs - ms) M (pc + 3) ls (vl x :: st) μ' Q) (hS : S = av.reverse ++ st) : Wp (d + 1) bc bs M pc ls S μ Q := by
  subst hS
  refine st_callH hd hc hn hst hC hmc hms (fun _ h => ?_) (fun r μ' h => ?_)
  · obtain ⟨x, e, hx⟩ := h
    cases e
  · obtain ⟨x, e, hx⟩ := h
    cases e
    exact k x μ' hx
theorem sg_HR {K : Nat → Mem → Prop} (hd : decode (mcd M) pc = .ok (.invokestatic i, 3)) (hc : cal (mow M) i = some (8, na, M')) (hn : av.length = na) (hst : csum st ≤ 8) (hC : Cl d mc ms M' (av) μ (KR K)) (hmc : mc ≤ bc) (hms : ms ≤ bs) (k : ∀ x μ', K x μ' → Wp (d + 1) (bc - mc) (bs - ms) M (pc + 3) ls (vr x :: st) μ' Q) (hS : S = av.reverse ++ st) : Wp (d + 1) bc bs M pc ls S μ Q := by
  subst hS
  refine st_callH hd hc hn hst hC hmc hms (fun _ h => ?_) (fun r μ' h => ?_)
  · obtain ⟨x, e, hx⟩ := h
    cases e
  · obtain ⟨x, e, hx⟩ := h
    cases e
    exact k x μ' hx
theorem sg_HV {K : Mem → Prop} (hd : decode (mcd M) pc = .ok (.invokestatic i, 3)) (hc : cal (mow M) i = some (8, na, M')) (hn : av.length = na) (hst : csum st ≤ 8) (hC : Cl d mc ms M' (av) μ (KV K)) (hmc : mc ≤ bc) (hms : ms ≤ bs) (k : ∀ μ', K μ' → Wp (d + 1) (bc - mc) (bs - ms) M (pc + 3) ls st μ' Q) (hS : S = av.reverse ++ st) : Wp (d + 1) bc bs M pc ls S μ Q := by
  subst hS
  refine st_callH hd hc hn hst hC hmc hms (fun _ h => ?_) (fun r μ' h => ?_)
  · cases h.1
  · obtain ⟨e, hx⟩ := h
    cases e
    exact k μ' hx
theorem sg_IV {b : Nat} {K : Mem → Prop} (hd : decode (mcd M) pc = .ok (.invokespecial i, 3)) (hc : cal (mow M) i = some (2, na, M')) (hn : av.length + 1 = na) (hb : b ≠ 0) (hst : csum st ≤ 8) (hC : Cl d mc ms M' (vr b :: av) μ (KV K)) (hmc : mc ≤ bc) (hms : ms ≤ bs) (k : ∀ μ', K μ' → Wp (d + 1) (bc - mc) (bs - ms) M (pc + 3) ls st μ' Q) (hS : S = av.reverse ++ vr b :: st) : Wp (d + 1) bc bs M pc ls S μ Q := by
  subst hS
  refine st_callI hd hc hn hb hst hC hmc hms (fun _ h => ?_) (fun r μ' h => ?_)
  · cases h.1
  · obtain ⟨e, hx⟩ := h
    cases e
    exact k μ' hx
theorem sg_INV {b : Nat} {K : Mem → Prop} (hd : decode (mcd M) pc = .ok (.invokespecial i, 3)) (hc : cal (mow M) i = some (5, na, M')) (hn : av.length + 1 = na) (hb : b ≠ 0) (hst : csum st ≤ 8) (hC : Cl d mc ms M' (vr b :: av) μ (KV K)) (hmc : mc ≤ bc) (hms : ms ≤ bs) (k : ∀ μ', K μ' → Wp (d + 1) (bc - mc) (bs - ms) M (pc + 3) ls st μ' Q) (hS : S = av.reverse ++ vr b :: st) : Wp (d + 1) bc bs M pc ls S μ Q := by
  subst hS
  refine st_callIN hd hc hn hb hst hC hmc hms (fun _ h => ?_) (fun r μ' h => ?_)
  · cases h.1
  · obtain ⟨e, hx⟩ := h
    cases e
    exact k μ' hx
theorem Wp.nameM (k : ∀ m, m = μ → Wp d bc bs M pc ls st m Q) : Wp d bc bs M pc ls st μ Q := k μ rfl
theorem Wp.nameL {ls2 : Int → List (Option AV)} (j : Nat) (x : Int) (hx : ls[j]? = some (some (vi x))) (hs : ∀ v, ls.set j (some (vi v)) = ls2 v) (k : ∀ v, v = x → Wp d bc bs M pc (ls2 v) st μ Q) : Wp d bc bs M pc ls st μ Q := by
  have e : ls.set j (some (vi x)) = ls := by
    obtain ⟨h1, h2⟩ := List.getElem?_eq_some_iff.mp hx
    rw [← h2]
    exact List.set_getElem_self h1
  have := k x rfl
  rw [← hs x, e] at this
  exact this
theorem sg_bipush {n : Int} (hd : decode (mcd M) pc = .ok (.bipush n, 2)) (h : -128 ≤ n ∧ n < 128) (hv : (Int8.ofInt n).toInt32 = Int32.ofInt n) (k : Wp d bc bs M (pc + 2) ls (vi n :: st) μ Q) : Wp d bc bs M pc ls st μ Q :=
  st_bipush hd hv (by unfold r32; omega) k
theorem sg_sipush {n : Int} (hd : decode (mcd M) pc = .ok (.sipush n, 3)) (h : -32768 ≤ n ∧ n < 32768) (hv : (Int16.ofInt n).toInt32 = Int32.ofInt n) (k : Wp d bc bs M (pc + 3) ls (vi n :: st) μ Q) : Wp d bc bs M pc ls st μ Q :=
  st_sipush hd hv (by unfold r32; omega) k
theorem sg_iconst {n : Int} (hd : decode (mcd M) pc = .ok (.iconst n, 1)) (h : -2 < n ∧ n < 6) (k : Wp d bc bs M (pc + 1) ls (vi n :: st) μ Q) : Wp d bc bs M pc ls st μ Q :=
  st_iconst hd (by unfold r32; omega) k
end RULES
