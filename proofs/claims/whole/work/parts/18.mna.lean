/-! ===== new byte[n][k] ===== -/
/-- the outer array at X, the rows behind it -/
def nwA (μ : Mem) (n k : Nat) : Mem := (fun o j => if mX μ ≤ o ∧ o ≤ mX μ + n then 0 else mD μ o j, fun o j => if mX μ ≤ o ∧ o ≤ mX μ + n then (if o = mX μ ∧ 0 ≤ j ∧ j < n then mX μ + 1 + j.toNat else 0) else mR μ o j, fun o => if o = mX μ then 28 else if mX μ ≤ o ∧ o ≤ mX μ + n then 22 else mK μ o, fun o => if o = mX μ then n else if mX μ ≤ o ∧ o ≤ mX μ + n then k else mN μ o, mX μ + 1 + n)
theorem nwA_at {μ : Mem} {n k o : Nat} (h : ¬ (mX μ ≤ o ∧ o ≤ mX μ + n)) : mD (nwA μ n k) o = mD μ o ∧ mR (nwA μ n k) o = mR μ o ∧ mK (nwA μ n k) o = mK μ o ∧ mN (nwA μ n k) o = mN μ o := by
  have h0 : ¬ o = mX μ := fun e => h ⟨by omega, by omega⟩
  refine ⟨funext fun j => if_neg h, funext fun j => if_neg h, ?_, ?_⟩
  · show (if o = mX μ then 28 else if mX μ ≤ o ∧ o ≤ mX μ + n then 22 else mK μ o) = _
    rw [if_neg h0, if_neg h]
  · show (if o = mX μ then n else if mX μ ≤ o ∧ o ≤ mX μ + n then k else mN μ o) = _
    rw [if_neg h0, if_neg h]
theorem gad_a {G : GT} {x : Nat} (h : 4 ≤ x) (j : Nat) : gad G (x + j) = gad G x + j := by
  unfold gad
  rw [if_neg (by omega), if_neg (by omega)]
  omega
theorem mna_link : Cond.classLink "CoffeeThatSlopsModel" 79 ("[" ++ (FieldType.array .byte).toString) ∈ bigW := List.mem_filter.mpr ⟨by decide +kernel, rfl⟩
section MNA
variable {d bc bs : Nat} {M : MI} {pc : Nat} {ls : List (Option AV)} {st : List AV} {μ : Mem} {Q : Option (Option AV) → Mem → Prop}
theorem st_mna {n k : Int} (hd : decode (mcd M) pc = .ok (.multianewarray 79 2, 4)) (h10 : mow M = 10) (hx : mX μ ≠ 0) (h0 : 0 ≤ n) (hn : n ≤ 1000) (h0k : 0 ≤ k) (hnk : k ≤ 1000) (h1 : 1 + n ≤ bc) (h2 : n + n * k ≤ bs) (kk : Wp d (bc - (1 + n.toNat)) (bs - (n.toNat + n.toNat * k.toNat)) M (pc + 4) ls (vr (mX μ) :: st) (nwA μ n.toNat k.toNat) Q) : Wp d bc bs M pc ls (vi k :: vi n :: st) μ Q := by
  intro p l e R s m args below meth c H locs cells slots Qf G lm hC hR hL hs hcl hsl hE
  obtain ⟨hxx, hb, hml, hown, hts, hS, -⟩ := id hC
  obtain ⟨r1, r2, r3, r4, r5, r6⟩ := id hR
  obtain ⟨x4, xH, xK⟩ := r4 hx
  have hkr := oks_h hs
  have hnr := oks_h (oks_t hs)
  have hcn := i_clamp hnr
  have hck := i_clamp hkr
  rw [h10] at hown
  have hcy : s.vm.findClass (FieldType.array .byte).toString = some (gcy G 2) := (hS.1.2 2 _ rfl).2
  have hcA9 : s.vm.findClass ("[" ++ (FieldType.array .byte).toString) = some (gcy G 8) := (hS.1.2 8 _ rfl).2
  have nn : ∀ z : Int, r32 z → 0 ≤ z → ¬ Int32.ofInt z < 0 := fun z hz h0 q => by
    rw [i_0, i_lt hz r32_0] at q
    omega
  obtain ⟨N, hN⟩ : ∃ N : Nat, n = N := ⟨n.toNat, by omega⟩
  obtain ⟨L, hL9⟩ : ∃ L : Nat, k = L := ⟨k.toNat, by omega⟩
  subst hN
  subst hL9
  rw [Int.toNat_natCast] at hcn hck
  rw [Int.toNat_natCast, Int.toNat_natCast] at kk
  have hNL : N + N * L ≤ bs := by exact_mod_cast h2
  intro T hT Xs
  obtain ⟨vm₁, cA, comp, -, fA, fC, hO, -, X', step⟩ := Xs.multianewarray2F (own := "CoffeeThatSlopsModel") (index := 79) (ty := .byte) hxx hown (hts _ mna_link) hS.2.1.2 (hts _ arr_words.2.2.1) (g := F0 m pc lm (.int (Int32.ofInt L) :: .int (Int32.ofInt N) :: st.map (toV (gad G)))) rfl (by rw [hb]; exact hd) rfl (nn _ hnr h0) (nn _ hkr h0k) (by rw [hcn]; omega) (by rw [hck]; show L * 1 ≤ _; omega) (by rw [hck]; omega) rfl rfl (by rw [hcn]; omega) (by rw [hcn, hck]; omega)
  have ec : comp = gcy G 2 := Option.some.inj (fC.symm.trans hcy)
  have eA : cA = gcy G 8 := Option.some.inj (fA.symm.trans hcA9)
  subst ec
  subst eA
  rw [hcn, hck] at X' step
  generalize hF : Jvm.Free.Multi.fill (T.setVm vm₁) (gcy G 8) (gcy G 2) N L (defaultValue .byte) N = F at X' step
  have hTh : (T.setVm vm₁).heap = H := hT
  obtain ⟨f1, f2, -, -⟩ := Jvm.Free.Multi.fill_facts (T.setVm vm₁) (gcy G 8) (gcy G 2) N L (defaultValue .byte) N
  rw [hF, hTh] at f1 f2
  have hold : ∀ x : Nat, x < H.size → F.heap[x]? = H[x]? := fun x hx9 => by
    have := Jvm.Free.Multi.fill_old (T.setVm vm₁) (gcy G 8) (gcy G 2) N L (defaultValue .byte) (a := x) (by rw [hTh]; exact hx9) N
    rw [hF, hTh] at this
    exact this
  have hrow : ∀ j : Nat, j < N → F.heap[H.size + 1 + j]? = some (arrV (gcy G 2) L (fun _ => .int 0)) := fun j hj => by
    have := Jvm.Free.Multi.fill_inner (T.setVm vm₁) (gcy G 8) (gcy G 2) N L (defaultValue .byte) N j hj
    rw [hF, hTh] at this
    rw [this, ← arrV_new]
    rfl
  rw [vr_outer] at f2
  have hR1 : Rp G (nwA μ N L) s F.heap locs := by
    refine ⟨fun o ho0 ho40 => ?_, fun o ho => ?_, ⟨Nat.le_trans r3.1 (by rw [f1]; omega), fun q q1 q2 => (hold q (Nat.lt_of_lt_of_le q1 r3.1)).trans (r3.2.1 q q1 q2), r3.2.2⟩, fun _ => ?_, fun o j => ?_, fun o => ?_⟩
    · by_cases e : mX μ ≤ o ∧ o ≤ mX μ + N
      · refine ⟨by omega, ?_⟩
        by_cases e1 : o = mX μ
        · subst e1
          rw [ent_r (k := 28) (show mK (nwA μ N L) (mX μ) = 28 from if_pos rfl) (by omega), ← xH]
          show F.heap[H.size]? = some (vp_cell _ _)
          have en : mN (nwA μ N L) (mX μ) = N := if_pos rfl
          rw [f2, en, vp_cell_q]
          congr 1
          unfold arrV
          congr 1
          apply congrArg
          funext j
          have er : mR (nwA μ N L) (mX μ) (j.val : Int) = mX μ + 1 + j.val := by
            show (if mX μ ≤ mX μ ∧ mX μ ≤ mX μ + N then (if mX μ = mX μ ∧ 0 ≤ (j.val : Int) ∧ (j.val : Int) < N then mX μ + 1 + (j.val : Int).toNat else 0) else _) = _
            rw [if_pos ⟨by omega, by omega⟩, if_pos ⟨rfl, by omega, by have := j.isLt; omega⟩, Int.toNat_natCast]
          dsimp only
          rw [er, if_pos j.isLt, if_neg (by omega), show mX μ + 1 + j.val = mX μ + (1 + j.val) by omega, gad_a x4, ← xH]
          congr 2
          omega
        · obtain ⟨j, hj⟩ : ∃ j, o = mX μ + 1 + j := ⟨o - (mX μ + 1), by omega⟩
          have hjN : j < N := by omega
          have ek : mK (nwA μ N L) o = 22 := by
            show (if o = mX μ then 28 else if mX μ ≤ o ∧ o ≤ mX μ + N then 22 else mK μ o) = _
            rw [if_neg e1, if_pos e]
          have en : mN (nwA μ N L) o = L := by
            show (if o = mX μ then N else if mX μ ≤ o ∧ o ≤ mX μ + N then L else mN μ o) = _
            rw [if_neg e1, if_pos e]
          have e0 : ∀ i : Int, mD (nwA μ N L) o i = 0 := fun i => if_pos e
          rw [ent_i ek (by omega) (by omega) (by omega), en]
          show F.heap[gad G o]? = some (vp_cell _ _)
          rw [hj, show mX μ + 1 + j = mX μ + (1 + j) by omega, gad_a x4, ← xH, show H.size + (1 + j) = H.size + 1 + j by omega, hrow j hjN, ← hj.trans (show mX μ + 1 + j = mX μ + (1 + j) by omega)]
          simp only [e0]
          rfl
      · obtain ⟨e1, e2, e3, e4⟩ := nwA_at (k := L) e
        rw [e3] at ho0 ho40
        obtain ⟨g1, g2⟩ := r1 o ho0 ho40
        refine ⟨g1, ?_⟩
        rw [ent_congr (μ := μ) e3 e4 e1 e2]
        exact g2.kept (hold _ g2.lt)
    · by_cases e : mX μ ≤ o ∧ o ≤ mX μ + N
      · have ho : (if o = mX μ then 28 else if mX μ ≤ o ∧ o ≤ mX μ + N then 22 else mK μ o) = 40 := ho
        by_cases e1 : o = mX μ
        · rw [if_pos e1] at ho; omega
        · rw [if_neg e1, if_pos e] at ho; omega
      · obtain ⟨e1, e2, e3, e4⟩ := nwA_at (k := L) e
        rw [e3] at ho
        obtain ⟨g1, g2⟩ := r2 o ho
        refine ⟨g1, ?_⟩
        rw [e4, e1]
        obtain ⟨scr, c1, -⟩ := id g2
        exact g2.kept (hold _ (Array.getElem?_eq_some_iff.mp c1).1)
    · refine ⟨by show 4 ≤ mX μ + 1 + N; omega, ?_, fun o ho => ?_⟩
      · show F.heap.size = gad G (mX μ + 1 + N)
        rw [f1, show mX μ + 1 + N = mX μ + (1 + N) by omega, gad_a x4, ← xH]
        omega
      · have ho : mX μ + 1 + N ≤ o := ho
        rw [(nwA_at (k := L) (show ¬ (mX μ ≤ o ∧ o ≤ mX μ + N) by omega)).2.2.1]
        exact xK o (by omega)
    · by_cases e : mX μ ≤ o ∧ o ≤ mX μ + N
      · have e0 : mD (nwA μ N L) o j = 0 := if_pos e
        rw [e0]
        exact ⟨fun _ => by unfold r64; omega, fun _ => r32_0⟩
      · obtain ⟨e1, e2, e3, e4⟩ := nwA_at (k := L) e
        rw [e3, e1]
        exact r5 o j
    · by_cases e : mX μ ≤ o ∧ o ≤ mX μ + N
      · show (if o = mX μ then N else if mX μ ≤ o ∧ o ≤ mX μ + N then L else mN μ o) < _
        split
        · omega
        · first
          | omega
          | (rw [if_pos e]; omega)
      · rw [(nwA_at (k := L) e).2.2.2]
        exact r6 o
  have hw := kk p l e R s m args below meth c F.heap locs (cells + 1 + N) (slots + N + N * L) Qf G lm hC hR1 hL (oks_r (oks_t (oks_t hs))) (by omega) (by omega) hE
  rw [List.map_cons, toV_ref x4, ← xH] at hw
  obtain ⟨t, a1, b1⟩ := hw F rfl X'
  refine ⟨t, step t ?_, b1⟩
  rw [hT]
  exact a1
end MNA
