/-! ===== the abstract machine's states, and what it means that the machine holds one ===== -/
def thK : Nat := 165
def thC : Nat := 167
abbrev GT : Type := va_G × (Nat → ClassId) × Nat × (Nat → Nat)
def gD (G : GT) : va_G := G.1
def gcy (G : GT) : Nat → ClassId := G.2.1
def gB (G : GT) : Nat := G.2.2.1
def gx (G : GT) : Nat → Nat := G.2.2.2
def gad (G : GT) (o : Nat) : Nat := if o < 4 then gx G o else gB G + (o - 4)
def gA (G : GT) : Nat → Prop := fun q => gB G ≤ q
def gtys (G : GT) : List (ClassId × FieldType) := [(gcy G 0, .int), (gcy G 1, .long), (gcy G 2, .byte), (gcy G 3, .char), (gcy G 4, .boolean), (gcy G 5, .object "CoffeeThatSlops$State"), (gcy G 6, .object "CoffeeThatSlops$Walk"), (gcy G 7, .object "CoffeeThatSlops$Law"), (gcy G 8, .array .byte)]
/-- numbers, references, kinds, lengths, the next object (0: not told) -/
abbrev Mem : Type := (Nat → Int → Int) × (Nat → Int → Nat) × (Nat → Nat) × (Nat → Nat) × Nat
def mD (μ : Mem) : Nat → Int → Int := μ.1
def mR (μ : Mem) : Nat → Int → Nat := μ.2.1
def mK (μ : Mem) : Nat → Nat := μ.2.2.1
def mN (μ : Mem) : Nat → Nat := μ.2.2.2.1
def mX (μ : Mem) : Nat := μ.2.2.2.2
def toV (ad : Nat → Nat) (v : AV) : Value := match v with
  | .inl x => .int (Int32.ofInt x)
  | .inr (.inl x) => .long (Int64.ofInt x)
  | .inr (.inr r) => if r = 0 then .null else .ref (ad r)
def okv (v : AV) : Prop := match v with
  | .inl x => r32 x
  | .inr (.inl x) => r64 x
  | .inr (.inr _) => True
def oks (st : List AV) : Prop := ∀ v ∈ st, okv v
def isL (v : AV) : Bool := match v with
  | .inr (.inl _) => true
  | _ => false
theorem cat_L (ad : Nat → Nat) (v : AV) : (toV ad v).category = if isL v = true then 2 else 1 := by
  rcases v with x | x | r
  · rfl
  · rfl
  · simp only [toV, isL]
    split <;> rfl
theorem oks_nil : oks [] := fun v h => by cases h
theorem oks_c {v : AV} {st : List AV} (h : okv v) (h2 : oks st) : oks (v :: st) := fun w hw => by
  rcases List.mem_cons.mp hw with e | e
  · rw [e]; exact h
  · exact h2 w e
theorem oks_h {v : AV} {st : List AV} (h : oks (v :: st)) : okv v := h v List.mem_cons_self
theorem oks_t {v : AV} {st : List AV} (h : oks (v :: st)) : oks st := fun w hw => h w (List.mem_cons_of_mem _ hw)
/-! locals -/
def clr (ls : List (Option AV)) (i : Nat) : List (Option AV) := match i with
  | 0 => ls
  | k + 1 => match ls[k]? with
    | some (some (.inr (.inl _))) => ls.set k none
    | _ => ls
def sto (ls : List (Option AV)) (i : Nat) (v : AV) : List (Option AV) := (clr ls i).set i (some v)
def sto2 (ls : List (Option AV)) (i : Nat) (v : AV) : List (Option AV) := ((clr ls i).set i (some v)).set (i + 1) none
def LR (ad : Nat → Nat) (ls : List (Option AV)) (nL : Nat) (lm : Array Slot) : Prop := ls.length ≤ nL ∧ lm.size = nL ∧ lv_wf lm ∧ ∀ (i : Nat) (v : AV), ls[i]? = some (some v) → lm[i]? = some (.val (toV ad v)) ∧ okv v
def lvl (ad : Nat → Nat) (ls : List (Option AV)) (nL : Nat) : List (Nat × Value) := (List.range nL).filterMap (fun i => match ls[i]? with
  | some (some v) => some (i, toV ad v)
  | _ => none)
theorem lvl_mem {ad : Nat → Nat} {ls : List (Option AV)} {nL : Nat} (hn : ls.length ≤ nL) {k : Nat} {v : AV} (h : ls[k]? = some (some v)) : (k, toV ad v) ∈ lvl ad ls nL := by
  have hk : k < ls.length := (List.getElem?_eq_some_iff.mp h).1
  refine List.mem_filterMap.mpr ⟨k, List.mem_range.mpr (by omega), ?_⟩
  rw [h]
theorem lvl_of {ad : Nat → Nat} {ls : List (Option AV)} {nL : Nat} {q : Nat × Value} (h : q ∈ lvl ad ls nL) : ∃ v, ls[q.1]? = some (some v) ∧ q.2 = toV ad v := by
  obtain ⟨i, -, hi⟩ := List.mem_filterMap.mp h
  split at hi
  · rename_i v hv
    cases hi
    exact ⟨v, hv, rfl⟩
  · cases hi
theorem LR.has {ad : Nat → Nat} {ls : List (Option AV)} {nL : Nat} {lm : Array Slot} (h : LR ad ls nL lm) : lv_has lm nL (lvl ad ls nL) := by
  refine ⟨h.2.1, h.2.2.1, fun q hq => ?_⟩
  obtain ⟨v, h1, h2⟩ := lvl_of hq
  rw [h2]
  exact (h.2.2.2 q.1 v h1).1
theorem LR.at {ad : Nat → Nat} {ls : List (Option AV)} {nL : Nat} {lm : Array Slot} (h : LR ad ls nL lm) {i : Nat} {v : AV} (hv : ls[i]? = some (some v)) : lm[i]? = some (.val (toV ad v)) := (h.2.2.2 i v hv).1
theorem LR.ok {ad : Nat → Nat} {ls : List (Option AV)} {nL : Nat} {lm : Array Slot} (h : LR ad ls nL lm) {i : Nat} {v : AV} (hv : ls[i]? = some (some v)) : okv v := (h.2.2.2 i v hv).2
theorem clr_len (ls : List (Option AV)) (i : Nat) : (clr ls i).length = ls.length := by
  unfold clr
  split
  · rfl
  · split
    · exact List.length_set
    · rfl
theorem clr_at {ls : List (Option AV)} {i k : Nat} {w : AV} (h : (clr ls i)[k]? = some (some w)) : ls[k]? = some (some w) ∧ ¬ (k + 1 = i ∧ isL w = true) := by
  unfold clr at h
  split at h
  · exact ⟨h, fun z => by omega⟩
  · rename_i j
    split at h
    · rename_i x hx
      by_cases e : k = j
      · subst e
        rw [List.getElem?_set_self (List.getElem?_eq_some_iff.mp hx).1] at h
        cases h
      · rw [List.getElem?_set_ne (Ne.symm e)] at h
        exact ⟨h, fun z => by omega⟩
    · rename_i hx
      refine ⟨h, fun z => ?_⟩
      obtain ⟨z1, z2⟩ := z
      have e : k = j := by omega
      subst e
      rcases w with x | x | r
      · cases z2
      · exact hx _ h
      · cases z2
theorem LR.sto1 {ad : Nat → Nat} {ls : List (Option AV)} {nL : Nat} {lm lm' : Array Slot} {i : Nat} {v : AV} (h : LR ad ls nL lm) (hi : i < ls.length) (hv : okv v)
    (hh : lv_has lm' nL ((i, toV ad v) :: (lvl ad ls nL).filter (fun q => !(q.1 == i) && !(q.1 + 1 == i && q.2.category == 2)))) : LR ad (sto ls i v) nL lm' := by
  refine ⟨by unfold sto; rw [List.length_set, clr_len]; exact h.1, hh.1, hh.2.1, fun k w hw => ?_⟩
  unfold sto at hw
  by_cases e : k = i
  · subst e
    rw [List.getElem?_set_self (by rw [clr_len]; exact hi)] at hw
    cases hw
    exact ⟨hh.2.2 (k, toV ad v) List.mem_cons_self, hv⟩
  · rw [List.getElem?_set_ne (Ne.symm e)] at hw
    obtain ⟨h1, h2⟩ := clr_at hw
    refine ⟨hh.2.2 (k, toV ad w) (List.mem_cons_of_mem _ (List.mem_filter.mpr ⟨lvl_mem h.1 h1, ?_⟩)), h.ok h1⟩
    simp only [Bool.and_eq_true, Bool.not_eq_true', beq_eq_false_iff_ne, ne_eq, Bool.and_eq_false_iff]
    refine ⟨e, ?_⟩
    by_cases e2 : k + 1 = i
    · refine Or.inr ?_
      rw [cat_L, if_neg (fun z => h2 ⟨e2, z⟩)]
      decide
    · exact Or.inl e2
theorem LR.sto2' {ad : Nat → Nat} {ls : List (Option AV)} {nL : Nat} {lm lm' : Array Slot} {i : Nat} {v : AV} (h : LR ad ls nL lm) (hi : i + 1 < ls.length) (hv : okv v)
    (hh : lv_has lm' nL ((i, toV ad v) :: (lvl ad ls nL).filter (fun q => !(q.1 == i) && (!(q.1 == i + 1) && !(q.1 + 1 == i && q.2.category == 2))))) : LR ad (sto2 ls i v) nL lm' := by
  refine ⟨by unfold sto2; rw [List.length_set, List.length_set, clr_len]; exact h.1, hh.1, hh.2.1, fun k w hw => ?_⟩
  unfold sto2 at hw
  by_cases e1 : k = i + 1
  · subst e1
    rw [List.getElem?_set_self (by rw [List.length_set, clr_len]; exact hi)] at hw
    cases hw
  rw [List.getElem?_set_ne (Ne.symm e1)] at hw
  by_cases e : k = i
  · subst e
    rw [List.getElem?_set_self (by rw [clr_len]; omega)] at hw
    cases hw
    exact ⟨hh.2.2 (k, toV ad v) List.mem_cons_self, hv⟩
  · rw [List.getElem?_set_ne (Ne.symm e)] at hw
    obtain ⟨h1, h2⟩ := clr_at hw
    refine ⟨hh.2.2 (k, toV ad w) (List.mem_cons_of_mem _ (List.mem_filter.mpr ⟨lvl_mem h.1 h1, ?_⟩)), h.ok h1⟩
    simp only [Bool.and_eq_true, Bool.not_eq_true', beq_eq_false_iff_ne, ne_eq, Bool.and_eq_false_iff]
    refine ⟨e, e1, ?_⟩
    by_cases e2 : k + 1 = i
    · refine Or.inr ?_
      rw [cat_L, if_neg (fun z => h2 ⟨e2, z⟩)]
      decide
    · exact Or.inl e2
/-- a local of which nothing more is said -/
theorem LR.drop {ad : Nat → Nat} {ls : List (Option AV)} {nL : Nat} {lm : Array Slot} {i : Nat} (h : LR ad ls nL lm) : LR ad (ls.set i none) nL lm := by
  refine ⟨by rw [List.length_set]; exact h.1, h.2.1, h.2.2.1, fun k w hw => ?_⟩
  by_cases e : k = i
  · subst e
    by_cases hl : k < ls.length
    · rw [List.getElem?_set_self hl] at hw
      cases hw
    · have := (List.getElem?_eq_some_iff.mp hw).1
      rw [List.length_set] at this
      exact absurd this hl
  · rw [List.getElem?_set_ne (Ne.symm e)] at hw
    exact h.2.2.2 k w hw
def avl : List AV → List (Option AV)
  | [] => []
  | v :: t => some v :: (if isL v = true then none :: avl t else avl t)
theorem avl_cons (v : AV) (t : List AV) : avl (v :: t) = some v :: (if isL v = true then none :: avl t else avl t) := rfl
def entl (av : List AV) (n : Nat) : List (Option AV) := avl av ++ List.replicate (n - (avl av).length) none
theorem avl_len (ad : Nat → Nat) : ∀ av : List AV, (lg_sl (av.map (toV ad))).length = (avl av).length
  | [] => rfl
  | v :: t => by
    have ih := avl_len ad t
    unfold lg_sl at ih ⊢
    rw [List.map_cons, List.flatMap_cons, List.length_append, ih, cat_L, avl_cons]
    by_cases e : isL v = true
    · rw [if_pos e, if_pos e, if_pos rfl]
      simp only [List.length_cons, List.length_nil]
      omega
    · rw [if_neg e, if_neg e, if_neg (by decide)]
      simp only [List.length_cons, List.length_nil]
      omega
theorem avl_at (ad : Nat → Nat) : ∀ (av : List AV) (i k : Nat) (w : AV), (avl av)[k]? = some (some w) → (i + k, toV ad w) ∈ lv_args i (av.map (toV ad)) ∧ w ∈ av
  | [], i, k, w, h => by simp [avl] at h
  | v :: t, i, k, w, h => by
    rw [avl_cons] at h
    rw [List.map_cons]
    unfold lv_args
    rw [cat_L]
    cases k with
    | zero =>
      rw [List.getElem?_cons_zero] at h
      cases h
      exact ⟨List.mem_cons_self, List.mem_cons_self⟩
    | succ k =>
      rw [List.getElem?_cons_succ] at h
      by_cases e : isL v = true
      · rw [if_pos e] at h
        rw [if_pos e, if_pos rfl]
        cases k with
        | zero => rw [List.getElem?_cons_zero] at h; cases h
        | succ k =>
          rw [List.getElem?_cons_succ] at h
          obtain ⟨h1, h2⟩ := avl_at ad t (i + 2) k w h
          rw [show i + 2 + k = i + (k + 1 + 1) by omega] at h1
          exact ⟨List.mem_cons_of_mem _ h1, List.mem_cons_of_mem _ h2⟩
      · rw [if_neg e] at h
        rw [if_neg e, if_neg (by decide)]
        obtain ⟨h1, h2⟩ := avl_at ad t (i + 1) k w h
        rw [show i + 1 + k = i + (k + 1) by omega] at h1
        exact ⟨List.mem_cons_of_mem _ h1, List.mem_cons_of_mem _ h2⟩
theorem LR.entry {ad : Nat → Nat} {av : List AV} {n : Nat} (hn : (avl av).length ≤ n) (ho : oks av) : LR ad (entl av n) n ((lg_sl (av.map (toV ad)) ++ List.replicate (n - (lg_sl (av.map (toV ad))).length) Slot.unset).toArray) := by
  have h := lv_entry (av.map (toV ad)) (n := n) (by rw [avl_len]; exact hn)
  refine ⟨by unfold entl; rw [List.length_append, List.length_replicate]; omega, h.1, h.2.1, fun k w hw => ?_⟩
  unfold entl at hw
  by_cases hk : k < (avl av).length
  · rw [List.getElem?_append_left hk] at hw
    obtain ⟨h1, h2⟩ := avl_at ad av 0 k w hw
    rw [Nat.zero_add] at h1
    exact ⟨h.2.2 _ h1, ho w h2⟩
  · rw [List.getElem?_append_right (by omega)] at hw
    have := List.eq_of_mem_replicate (List.mem_of_getElem? hw)
    cases this
