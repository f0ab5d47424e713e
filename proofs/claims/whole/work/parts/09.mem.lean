/-! ===== fields and arrays ===== -/
def sD (μ : Mem) (a : Nat) (j x : Int) : Mem := (fun o k => if o = a ∧ k = j then x else mD μ o k, mR μ, mK μ, mN μ, mX μ)
def sR (μ : Mem) (a : Nat) (j : Int) (b : Nat) : Mem := (mD μ, fun o k => if o = a ∧ k = j then b else mR μ o k, mK μ, mN μ, mX μ)
theorem sD_D (μ : Mem) (a : Nat) (j x : Int) (o : Nat) (k : Int) : mD (sD μ a j x) o k = if o = a ∧ k = j then x else mD μ o k := rfl
theorem sD_R (μ : Mem) (a : Nat) (j x : Int) : mR (sD μ a j x) = mR μ := rfl
theorem sD_K (μ : Mem) (a : Nat) (j x : Int) : mK (sD μ a j x) = mK μ := rfl
theorem sD_N (μ : Mem) (a : Nat) (j x : Int) : mN (sD μ a j x) = mN μ := rfl
theorem sD_X (μ : Mem) (a : Nat) (j x : Int) : mX (sD μ a j x) = mX μ := rfl
theorem sR_R (μ : Mem) (a : Nat) (j : Int) (b : Nat) (o : Nat) (k : Int) : mR (sR μ a j b) o k = if o = a ∧ k = j then b else mR μ o k := rfl
theorem sR_D (μ : Mem) (a : Nat) (j : Int) (b : Nat) : mD (sR μ a j b) = mD μ := rfl
theorem sR_K (μ : Mem) (a : Nat) (j : Int) (b : Nat) : mK (sR μ a j b) = mK μ := rfl
theorem sR_N (μ : Mem) (a : Nat) (j : Int) (b : Nat) : mN (sR μ a j b) = mN μ := rfl
theorem sR_X (μ : Mem) (a : Nat) (j : Int) (b : Nat) : mX (sR μ a j b) = mX μ := rfl
theorem sD_ne {μ : Mem} {a o : Nat} {j x : Int} (h : o ≠ a) : mD (sD μ a j x) o = mD μ o := by
  funext k
  rw [sD_D, if_neg (fun z => h z.1)]
theorem sR_ne {μ : Mem} {a o : Nat} {j : Int} {b : Nat} (h : o ≠ a) : mR (sR μ a j b) o = mR μ o := by
  funext k
  rw [sR_R, if_neg (fun z => h z.1)]
theorem ent_congr {G : GT} {μ μ' : Mem} {o : Nat} (h1 : mK μ' o = mK μ o) (h2 : mN μ' o = mN μ o) (h3 : mD μ' o = mD μ o) (h4 : mR μ' o = mR μ o) : ent G μ' o = ent G μ o := by
  unfold ent flds fvl
  rw [h1, h2, h3, h4]
theorem fld_ok {o i kd j tc : Nat} {fin : Bool} (h : fld o i = some (kd, j, tc, fin)) : 1 ≤ kd ∧ kd ≤ 11 ∧ j < clN kd ∧ (clT kd j).1 = clC kd ∧ (clT kd j).2.2.2 = fin ∧ tcd (clT kd j).2.2.1 = tc ∧ tyok tc (clY kd j) = true ∧ Cond.fieldLink (onm o) i (clC kd) (clT kd j).2.1 (clT kd j).2.2.1 ∈ bigW := by
  unfold fld at h
  rw [Option.map_eq_some_iff] at h
  obtain ⟨e, he, h2⟩ := h
  obtain ⟨o', i', kd', j', tc', fin', p⟩ := e
  have hm := List.mem_of_find?_eq_some he
  have hp := List.find?_some he
  simp only [Bool.and_eq_true, beq_iff_eq] at hp
  obtain ⟨rfl, rfl⟩ := hp
  cases h2
  have hc := List.all_eq_true.mp fdt_ok _ hm
  unfold fchk at hc
  simp only [Bool.and_eq_true, decide_eq_true_eq] at hc
  obtain ⟨c1, c2, c3, c4, c5, c6, c7, c8⟩ := hc
  exact ⟨c1, c2, c3, c4, c5, c6, c7, okw_in c8⟩
theorem gad_ne {G : GT} {o a : Nat} (ho : 4 ≤ o) (ha : 4 ≤ a) (h : o ≠ a) : gad G o ≠ gad G a := by
  unfold gad
  rw [if_neg (by omega), if_neg (by omega)]
  omega
theorem gad_ge {G : GT} {o : Nat} (ho : 4 ≤ o) : gB G ≤ gad G o := by
  unfold gad
  rw [if_neg (by omega)]
  omega
theorem Rp.upd {G : GT} {μ μ' : Mem} {s : State} {H H1 : Heap} {locs : List Loc} {a i : Nat} (h : Rp G μ s H locs) (h0 : mK μ a ≠ 0) (h40 : mK μ a ≠ 40) (hK : mK μ' = mK μ) (hN : mN μ' = mN μ) (hX : mX μ' = mX μ)
    (hD : ∀ o, o ≠ a → mD μ' o = mD μ o) (hR : ∀ o, o ≠ a → mR μ' o = mR μ o) (hat : va_at (gD G) vwCl (gad G a, ent G μ' a) H1) (hz : H1.size = H.size) (hq : ∀ q : Nat, q ≠ gad G a → H1[q]? = H[q]?)
    (hr : ∀ j, (mK μ a = 21 → r64 (mD μ' a j)) ∧ (mK μ a ≠ 21 → r32 (mD μ' a j))) : Rp G μ' s H1 (locs ++ [⟨gad G a, i⟩]) := by
  obtain ⟨h1, h2, h3, h4, h5, h6⟩ := h
  have ha := (h1 a h0 h40).1
  refine ⟨fun o ho0 ho40 => ?_, fun o ho => ?_, h3.put hz hq (gad_ge ha), fun hx => ?_, fun o j => ?_, fun o => by rw [hN]; exact h6 o⟩
  · rw [hK] at ho0 ho40
    obtain ⟨g1, g2⟩ := h1 o ho0 ho40
    refine ⟨g1, ?_⟩
    by_cases e : o = a
    · rw [e]; exact hat
    · rw [ent_congr (μ := μ) (by rw [hK]) (by rw [hN]) (hD o e) (hR o e)]
      exact g2.kept (hq _ (gad_ne g1 ha e))
  · rw [hK] at ho
    obtain ⟨g1, g2⟩ := h2 o ho
    have e : o ≠ a := fun z => h40 (by rw [← z]; exact ho)
    refine ⟨g1, ?_⟩
    rw [hN, hD o e]
    exact g2.kept (hq _ (fun z => by have := gad_ge (G := G) ha; omega))
  · rw [hX] at hx
    obtain ⟨g1, g2, g3⟩ := h4 hx
    rw [hX, hz, hK]
    exact ⟨g1, g2, g3⟩
  · rw [hK]
    by_cases e : o = a
    · rw [e]; exact hr j
    · rw [hD o e]; exact h5 o j
theorem Rp.one {G : GT} {μ : Mem} {s : State} {H : Heap} {locs : List Loc} (h : Rp G μ s H locs) {a : Nat} (h0 : mK μ a ≠ 0) (h40 : mK μ a ≠ 40) : va_P (gD G) vwCl [(gad G a, ent G μ a)] H := by
  intro k q hk
  have hz : k < 1 := (List.getElem?_eq_some_iff.mp hk).1
  rw [show k = 0 by omega] at hk
  cases hk
  exact (h.1 a h0 h40).2
theorem toV_ref {G : GT} {a : Nat} (h : 4 ≤ a) : toV (gad G) (vr a) = .ref (gad G a) := if_neg (show ¬ a = 0 by omega)
theorem ent_obj {G : GT} {μ : Mem} {a kd : Nat} (h : mK μ a = kd) (h2 : kd ≤ 11) : ent G μ a = .inr (kd - 1, flds (gad G) μ a kd) := by
  unfold ent
  rw [h, if_pos (by omega)]
section MEM1
variable {d bc bs : Nat} {M : MI} {pc : Nat} {ls : List (Option AV)} {st : List AV} {μ : Mem} {Q : Option (Option AV) → Mem → Prop}
theorem st_getfield {i kd j tc a : Nat} {fin : Bool} (hd : decode (mcd M) pc = .ok (.getfield i, 3)) (hf : fld (mow M) i = some (kd, j, tc, fin)) (hk : mK μ a = kd) (k : Wp d bc bs M (pc + 3) ls (fav μ a tc j :: st) μ Q) : Wp d bc bs M pc ls (vr a :: st) μ Q := by
  obtain ⟨c1, c2, c3, c4, c5, c6, c7, c8⟩ := fld_ok hf
  refine Wp.step (fun {p l e R s m args below meth c H locs cells slots Qf G lm} hC hR hL ho w => ?_) (fun {G s H locs lm} hR hL h => ?_) k
  · obtain ⟨hx, hb, hml, hown, hts, hS, -⟩ := hC
    have h0 : mK μ a ≠ 0 := by omega
    have h40 : mK μ a ≠ 40 := by omega
    rw [List.map_cons, toV_ref (hR.1 a h0 h40).1]
    rw [List.map_cons, fav_V] at w
    refine va_get (T := clT kd) (N := clN kd) (ref := clC kd) (own := onm (mow M)) hx hb hts (cl_in kd c1 c2) hown hS.1 (hR.one h0 h40) 0 (fs := flds (gad G) μ a kd) (by rw [ent_obj hk c2]; rfl) (cl_cl kd c1 c2) j c3 (hts _ c8) (fun x h => by rw [c4] at h; exact h) (v := fvl (gad G) μ a tc j) ?_ hd w
    rw [flds_at c3, c6]
  · refine oks_c ?_ (oks_t h)
    unfold fav
    split
    · exact trivial
    · exact (hR.2.2.2.2.1 a j).2 (by omega)
end MEM1
