theorem Wp.mem {d bc bs : Nat} {M : MI} {pc pc' : Nat} {ls : List (Option AV)} {st st' : List AV} {μ μ' : Mem} {Q : Option (Option AV) → Mem → Prop}
    (f : ∀ {p : Program} {l : Launch} {e : Env} {R : Room} {s : State} {m : MethodId} {args : Array Value} {below : List Frame} {meth : Method} {c : Code} {H : Heap} {locs : List Loc} {cells slots : Nat} {Qf : State → Prop} {G : GT} {lm : Array Slot},
      Cx d M G p l R s m args meth c → Rp G μ s H locs → LR (gad G) ls (mml M) lm → oks st → (∀ (H1 : Heap) (locs1 : List Loc), Rp G μ' s H1 locs1 → W p l e R s m args below meth c H1 locs1 cells slots Qf (F0 m pc' lm (st'.map (toV (gad G))))) → W p l e R s m args below meth c H locs cells slots Qf (F0 m pc lm (st.map (toV (gad G)))))
    (ho : oks st → oks st') (k : Wp d bc bs M pc' ls st' μ' Q) : Wp d bc bs M pc ls st μ Q := by
  intro p l e R s m args below meth c H locs cells slots Qf G lm hC hR hL hs hc hsl hE
  exact f hC hR hL hs (fun H1 locs1 hR1 => k p l e R s m args below meth c H1 locs1 cells slots Qf G lm hC hR1 hL (ho hs) hc hsl hE)
/-- what may be written into a field of a sort -/
def fvok (tc : Nat) (v : AV) : Prop := match v with
  | .inl x => tc = 0 ∨ (tc = 1 ∧ (x = 0 ∨ x = 1))
  | .inr (.inl _) => False
  | .inr (.inr _) => tc = 2
def sV (μ : Mem) (a : Nat) (j : Nat) (v : AV) : Mem := match v with
  | .inl x => sD μ a j x
  | .inr (.inl _) => μ
  | .inr (.inr b) => sR μ a j b
theorem tyok0 {t : FieldType} (h : tyok 0 t = true) : t = .int := by cases t <;> first | rfl | cases h
theorem tyok1 {t : FieldType} (h : tyok 1 t = true) : t = .boolean := by cases t <;> first | rfl | cases h
theorem tyok2 {t : FieldType} (h : tyok 2 t = true) : (∃ n, t = .object n) ∨ ∃ e, t = .array e := by
  cases t <;> first | exact Or.inl ⟨_, rfl⟩ | exact Or.inr ⟨_, rfl⟩ | cases h
theorem fvok_fits {ad : Nat → Nat} {tc : Nat} {v : AV} {t : FieldType} (h : fvok tc v) (ht : tyok tc t = true) : narrow t (toV ad v) = toV ad v ∧ fits t (toV ad v) = true := by
  rcases v with x | x | r
  · rcases h with h | ⟨h1, h⟩
    · subst h
      rw [tyok0 ht]
      exact ⟨rfl, rfl⟩
    · subst h1
      rw [tyok1 ht]
      rcases h with rfl | rfl
      · exact ⟨(by decide +kernel : narrow .boolean (.int (Int32.ofInt 0)) = .int (Int32.ofInt 0)), (by decide +kernel : fits .boolean (.int (Int32.ofInt 0)) = true)⟩
      · exact ⟨(by decide +kernel : narrow .boolean (.int (Int32.ofInt 1)) = .int (Int32.ofInt 1)), (by decide +kernel : fits .boolean (.int (Int32.ofInt 1)) = true)⟩
  · exact h.elim
  · have h : tc = 2 := h
    subst h
    unfold toV
    dsimp only
    rcases tyok2 ht with ⟨n, rfl⟩ | ⟨e, rfl⟩ <;> split <;> exact ⟨rfl, rfl⟩
theorem sV_K (μ : Mem) (a j : Nat) (v : AV) : mK (sV μ a j v) = mK μ := by rcases v with x | x | r <;> rfl
theorem sV_N (μ : Mem) (a j : Nat) (v : AV) : mN (sV μ a j v) = mN μ := by rcases v with x | x | r <;> rfl
theorem sV_X (μ : Mem) (a j : Nat) (v : AV) : mX (sV μ a j v) = mX μ := by rcases v with x | x | r <;> rfl
theorem sV_D {μ : Mem} {a j : Nat} {v : AV} {o : Nat} (h : o ≠ a) : mD (sV μ a j v) o = mD μ o := by
  rcases v with x | x | r
  · exact sD_ne h
  · rfl
  · rfl
theorem sV_R {μ : Mem} {a j : Nat} {v : AV} {o : Nat} (h : o ≠ a) : mR (sV μ a j v) o = mR μ o := by
  rcases v with x | x | r
  · rfl
  · rfl
  · exact sR_ne h
theorem nat_ne {i j : Nat} (h : i ≠ j) : ¬ (i : Int) = (j : Int) := fun z => h (Int.ofNat.inj z)
/-- what a field's write leaves in the object's fields -/
theorem sV_f {ad : Nat → Nat} {μ : Mem} {a kd j tc : Nat} {v : AV} (hv : fvok tc v) (htc : tcd (clT kd j).2.2.1 = tc) (j' : Nat) :
    fvl ad (sV μ a j v) a (tcd (clT kd j').2.2.1) j' = if j' = j then toV ad v else fvl ad μ a (tcd (clT kd j').2.2.1) j' := by
  by_cases e : j' = j
  · subst e
    rw [if_pos rfl, htc]
    rcases v with x | x | r
    · have h2 : tc ≠ 2 := by rcases hv with h | ⟨h, -⟩ <;> omega
      show fvl ad (sD μ a j' x) a tc j' = _
      unfold fvl
      rw [if_neg h2, sD_D, if_pos ⟨rfl, rfl⟩]
      rfl
    · exact hv.elim
    · have hv : tc = 2 := hv
      have e : mR (sR μ a j' r) a j' = r := by rw [sR_R, if_pos ⟨rfl, rfl⟩]
      show fvl ad (sR μ a j' r) a tc j' = _
      unfold fvl
      rw [if_pos hv, e]
      rfl
  · rw [if_neg e]
    have hn := nat_ne e
    rcases v with x | x | r
    · have e1 : mD (sD μ a j x) a j' = mD μ a j' := by rw [sD_D, if_neg (fun z => hn z.2)]
      show fvl ad (sD μ a j x) a _ j' = _
      unfold fvl
      rw [sD_R, e1]
    · rfl
    · have e1 : mR (sR μ a j r) a j' = mR μ a j' := by rw [sR_R, if_neg (fun z => hn z.2)]
      show fvl ad (sR μ a j r) a _ j' = _
      unfold fvl
      rw [sR_D, e1]
theorem sV_r {μ : Mem} {a j : Nat} {v : AV} (ho : okv v) (h : ∀ k, r32 (mD μ a k)) : ∀ k, r32 (mD (sV μ a j v) a k) := by
  intro k
  rcases v with x | x | r
  · show r32 (mD (sD μ a j x) a k)
    rw [sD_D]
    split
    · exact ho
    · exact h k
  · exact h k
  · exact h k
theorem flds_V {ad : Nat → Nat} {μ : Mem} {o k j : Nat} (h : j < clN k) : vp_V (flds ad μ o k) j = fvl ad μ o (tcd (clT k j).2.2.1) j := by
  unfold vp_V
  rw [List.getD_eq_getElem?_getD, flds_at h]
  rfl
section MEM2
variable {d bc bs : Nat} {M : MI} {pc : Nat} {ls : List (Option AV)} {st : List AV} {μ : Mem} {Q : Option (Option AV) → Mem → Prop}
theorem st_putfield {i kd j tc a : Nat} {fin : Bool} {v : AV} (hd : decode (mcd M) pc = .ok (.putfield i, 3)) (hf : fld (mow M) i = some (kd, j, tc, fin)) (hk : mK μ a = kd) (hv : fvok tc v) (hfin : fin = false ∨ (mkd M = 1 ∧ onm (mow M) = clC kd)) (k : Wp d bc bs M (pc + 3) ls st (sV μ a j v) Q) : Wp d bc bs M pc ls (v :: vr a :: st) μ Q := by
  obtain ⟨c1, c2, c3, c4, c5, c6, c7, c8⟩ := fld_ok hf
  refine Wp.mem (fun {p l e R s m args below meth c H locs cells slots Qf G lm} hC hR hL ho w => ?_) (fun h => oks_t (oks_t h)) k
  obtain ⟨hx, hb, hml, hown, hts, hS, -, -, -, -, hinit, -⟩ := hC
  have h0 : mK μ a ≠ 0 := by omega
  have h40 : mK μ a ≠ 40 := by omega
  have h21 : mK μ a ≠ 21 := by omega
  have ha := (hR.1 a h0 h40).1
  rw [List.map_cons, List.map_cons, toV_ref ha]
  obtain ⟨hn, hfit⟩ := fvok_fits (ad := gad G) hv c7
  have hP := hR.one h0 h40
  have hc := cl_cl kd c1 c2
  have hap := va_apart (own := onm (mow M)) hts (cl_in kd c1 c2) (clY kd) (cl_ty kd c1 c2) (cl_nm kd c1 c2) hS.1 hc
  have he : [(gad G a, ent G μ a)][0]? = some (gad G a, .inr (kd - 1, flds (gad G) μ a kd)) := by rw [ent_obj hk c2]; rfl
  obtain ⟨r, h1, cell, q1, q2, q3, q4⟩ := hP 0 _ he
  have hr : r = (clC kd, clT kd, clN kd) := Option.some.inj (h1.symm.trans hc)
  subst hr
  obtain ⟨hSl, hfc, kC, hkC, hkind⟩ := hS.1.1 (kd - 1) _ hc
  obtain ⟨cf, kf, fi, f, hi, hsl⟩ := hSl j c3
  have hlay := hts _ (cl_in kd c1 c2 _ (u_in_lay c3))
  have hst := (u_facts hfc hkC (u_lays hts (cl_in kd c1 c2) c3) hi).1
  have fin1 : ∀ H' : Heap, H'[gad G a]? = some (cell.setSlot f.slot (toV (gad G) v)) → H'.size = H.size → (∀ q : Nat, q ≠ gad G a → H'[q]? = H[q]?) → Rp G (sV μ a j v) s H' (locs ++ [⟨gad G a, f.slot⟩]) := by
    intro H' e1 e2 e3
    rw [hsl] at e1 ⊢
    refine hR.upd h0 h40 (sV_K _ _ _ _) (sV_N _ _ _ _) (sV_X _ _ _ _) (fun o z => sV_D z) (fun o z => sV_R z) ?_ e2 e3 (fun j9 => ⟨fun z => absurd z h21, fun _ => sV_r (oks_h ho) (fun k9 => (hR.2.2.2.2.1 a k9).2 h21) j9⟩)
    rw [ent_obj (kd := kd) (by rw [sV_K]; exact hk) c2]
    refine ⟨_, hc, t_OB.to (V := updV (vp_V (flds (gad G) μ a kd)) j (toV (gad G) v)) ⟨_, e1, q2, q3, t_set q4 hap c3 _⟩ (fun j' hj' => ?_)⟩
    show (if j' = j then toV (gad G) v else vp_V (flds (gad G) μ a kd) j') = vp_V (flds (gad G) (sV μ a j v) a kd) j'
    rw [flds_V hj', flds_V hj', sV_f (kd := kd) hv c6]
  unfold u_lay at hlay
  cases hb2 : (clT kd j).2.2.2 with
  | false =>
    rw [if_neg (by rw [hb2]; decide)] at hlay
    have h6 := u_store hfc hkC hkind hlay hi (cl_ty kd c1 c2 j c3) hn hfit
    refine W.putK hx hb (f := f) (own := onm (mow M)) (ref := clC kd) (name := (clT kd j).2.1) (desc := (clT kd j).2.2.1) ⟨hown, hts _ c8, ⟨_, _, _, by rw [c4] at hi; exact hi⟩, hst⟩ (by rw [q2]; exact h6) q1 q3 (by rw [hsl]; exact k2_hasslot (q4 j c3)) rfl rfl hd fun H' e1 e2 e3 => ?_
    exact w H' _ (fin1 H' e1 e2 e3)
  | true =>
    rw [if_pos hb2] at hlay
    rcases hfin with hfin | ⟨hk1, hk2⟩
    · rw [hfin, hb2] at c5
      cases c5
    · have hcf : m.cls = cf := by
        obtain ⟨_, _, c', _, _, _, -, -, hf', -, -, -, hown2, -⟩ := Cond.laysFinal_spec hlay
        have e1 : c' = cf := by have := hi.symm.trans hf'; simp at this; exact this.1.symm
        rw [c4, ← hk2] at hown2
        rw [← e1]; exact Option.some.inj (hown.symm.trans hown2)
      have h6 := u_fits hfc hkC hkind (Or.inr hlay) hi (cl_ty kd c1 c2 j c3) hn hfit
      refine W.putFinK (own := onm (mow M)) (ref := clC kd) (name := (clT kd j).2.1) (desc := (clT kd j).2.2.1) hx hb hown (hts _ c8) (by rw [c4] at hi; exact hi) hst hcf (hinit hk1) (by rw [q2]; exact h6) q1 q3 (by rw [hsl]; exact k2_hasslot (q4 j c3)) rfl rfl hd fun H' e1 e2 e3 => ?_
      exact w H' _ (fin1 H' e1 e2 e3)
end MEM2
