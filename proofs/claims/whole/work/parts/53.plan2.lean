/-! ===== the soonest row of WALKS, 2 ===== -/
def EXP (D : DD) (W : Nat → Nat) : Prop := COK (cupv D 46) ∧ (W 11 = 0 ∨ lawId (W 11)) ∧ (∀ i, i < 4 → walkId (W i) ∧ 0 ≤ D (W i) 4 ∧ D (W i) 4 ≤ 1000) ∧ (∀ j, 0 ≤ j → j < 4 → 0 ≤ D 20 j ∧ D 20 j ≤ 99)
/-- all that the Planner may change -/
def qF (q : Nat) (j : Int) : Prop := (q = 45 ∧ (j = 6 ∨ j = 7)) ∨ q = 50 ∨ q = 51 ∨ (52 ≤ q ∧ q ≤ 91) ∨ q = 29 ∨ q = 145 ∨ q = 148 ∨ q = 151
theorem pF_q {len : Int} (h : 0 ≤ len) : ∀ q j, pF len q j → qF q j := fun q j z => by unfold pF at z; unfold qF; omega
section EXS
variable {D D' : DD} {W : Nat → Nat}
theorem EXP.v (h : EXP D W) (hF : Fr qF D D') : cupv D' 46 = cupv D 46 ∧ lawO D' (W 11) = lawO D (W 11) ∧ (∀ a, 0 ≤ a → a ≤ 3 → wsv D' W a = wsv D W a ∧ D' (W a.toNat) 4 = D (W a.toNat) 4) ∧ (∀ j, D' 20 j = D 20 j) ∧ D' 45 4 = D 45 4 := by
  obtain ⟨h1, h3, h4, h5⟩ := h
  refine ⟨cupv_fr hF (fun q j a b => by unfold qF; omega), ?_, fun a a0 a1 => ?_, fun j => hF 20 j (by unfold qF; omega), hF 45 4 (by unfold qF; omega)⟩
  · rcases h3 with e | e
    · unfold lawO
      rw [if_pos e, if_pos e]
    · exact lawO_fr hF (fun j => by unfold qF; unfold lawId at e; omega)
  · have hw := (h4 a.toNat (by omega)).1
    exact ⟨wkv_fr hF (fun q j x y => by unfold qF; unfold walkId at hw; omega), hF _ _ (by unfold qF; unfold walkId at hw; omega)⟩
theorem EXP.fr (h : EXP D W) (hF : Fr qF D D') : EXP D' W := by
  obtain ⟨v1, v2, v3, v4, v5⟩ := h.v hF
  obtain ⟨h1, h3, h4, h5⟩ := h
  refine ⟨by rw [v1]; exact h1, h3, fun i hi => ?_, fun j j0 j1 => by rw [v4]; exact h5 j j0 j1⟩
  have := (v3 i (by omega) (by omega)).2
  rw [show ((i : Int)).toNat = i by omega] at this
  rw [this]
  exact h4 i hi
end EXS
theorem zext_ext {c : Cv} {L : Option (List Int)} {ws ws' : Int → Wv} {mets mets' : Int → Int} {goal : Int} (e1 : ∀ a, 0 ≤ a → a ≤ 3 → ws a = ws' a) (e2 : ∀ a, 0 ≤ a → a ≤ 3 → mets a = mets' a) : ∀ {f : Nat} {s : Sv} {row : List Int} {led tk : Int} {b : Bst}, zext c L ws mets goal f s row led tk b = zext c L ws' mets' goal f s row led tk b
  | 0, _, _, _, _, _ => rfl
  | f + 1, s, row, led, tk, b => by
    have hr : zext c L ws mets goal f = zext c L ws' mets' goal f := by
      funext s row led tk b
      exact zext_ext e1 e2
    show zlp (zst1 c L ws mets goal (zext c L ws mets goal f) s row led tk) 4 b = zlp (zst1 c L ws' mets' goal (zext c L ws' mets' goal f) s row led tk) 4 b
    rw [hr]
    have hl : ∀ n : Nat, n ≤ 4 → zlp (zst1 c L ws mets goal (zext c L ws' mets' goal f) s row led tk) n b = zlp (zst1 c L ws' mets' goal (zext c L ws' mets' goal f) s row led tk) n b := by
      intro n
      induction n with
      | zero => intro _; rfl
      | succ n ih =>
        intro hn
        show zst1 c L ws mets goal _ s row led tk n (zlp _ n b) = zst1 c L ws' mets' goal _ s row led tk n (zlp _ n b)
        rw [ih (by omega)]
        unfold zst1
        rw [e1 n (by omega) (by omega), e2 n (by omega) (by omega)]
    exact hl 4 (by decide)
theorem C_extend {n1 : Nat} {W : Nat → Nat} : ∀ (f : Nat) {d : Nat} {D : DD} {len led tk : Int} {s : Sv} {row : List Int}, EXP D W → len = 4 - (f : Int) → 0 ≤ len → lst (D 50) len = row → SimS (stv D (52 + 8 * len.toNat)) s → SOK s → sTick s = tk → tk ≤ 1000 * len → 0 ≤ led → led ≤ 99 * len → (0 ≤ D 45 6 ∧ D 45 6 ≤ 4) →
    Cl (d + 6 + f) 0 0 mX9_extend [vr 45, vr 19, vr 20, vi len, vi led, vi tk] (D, rho n1 W) (KV (fun m => ∃ D', m = (D', rho n1 W) ∧ Fr (pF len) D D' ∧ bstv D' = zext (cupv D 46) (lawO D (W 11)) (wsv D W) (D 20) (D 45 4) f s row led tk (bstv D) ∧ (0 ≤ D' 45 6 ∧ D' 45 6 ≤ 4)))
  | 0, d, D, len, led, tk, s, row, hX, hlen, l0, hrow, hsim, hs, ht, ht2, hl0, hl1, h8 => by
    refine Cl_of mb_X9_extend (Nat.le_of_ble_eq_true rfl) (sg_X9_extend_0 (sg_X9_extend_3 ⟨fun c => absurd c (by decide), fun _ => ⟨fun _ => ⟨rfl, D, rfl, Fr.refl, rfl, h8⟩, fun c => absurd (show 4 ≤ len by omega) c⟩⟩))
  | f + 1, d, D, len, led, tk, s, row, hX, hlen, l0, hrow, hsim, hs, ht, ht2, hl0, hl1, h8 => by
    have ht0 : 0 ≤ tk := by rw [← ht]; exact hs.2.2
    refine Cl_of mb_X9_extend (Nat.le_of_ble_eq_true rfl) (sg_X9_extend_0 ?_)
    show Wp (d + 6 + f + 1) 0 0 mX9_extend 3 [some (vr 45), some (vr 19), some (vr 20), some (vi len), some (vi led), some (vi tk), some (vi 0), none, none] [] (D, rho n1 W) _
    generalize eS : zst1 (cupv D 46) (lawO D (W 11)) (wsv D W) (D 20) (D 45 4) (zext (cupv D 46) (lawO D (W 11)) (wsv D W) (D 20) (D 45 4) f) s row led tk = st
    have hz : zext (cupv D 46) (lawO D (W 11)) (wsv D W) (D 20) (D 45 4) (f + 1) s row led tk (bstv D) = zlp st 4 (bstv D) := by rw [← eS]; rfl
    rw [hz]
    refine Wp.loop (σ := Int) (fun i => [some (vr 45), some (vr 19), some (vr 20), some (vi len), some (vi led), some (vi tk), some (vi i), none, none])
      (fun i μ => ∃ E : DD, μ = (E, rho n1 W) ∧ Fr (pF len) D E ∧ 0 ≤ i ∧ i ≤ 4 ∧ bstv E = zlp st i.toNat (bstv D) ∧ (0 ≤ E 45 6 ∧ E 45 6 ≤ 4))
      (fun i => (4 - i).toNat) ?_ 0 _ ⟨D, rfl, Fr.refl, by decide, by decide, rfl, h8⟩
    rintro i μ ⟨E, rfl, hF, i0, i1, hb, e8⟩ ih
    have hFq : Fr qF D E := hF.mono (pF_q l0)
    obtain ⟨v1, v2, v3, v4, v5⟩ := hX.v hFq
    have hXE := hX.fr hFq
    refine sg_X9_extend_3 ⟨fun c1 => ⟨rfl, E, rfl, hF, ?_, e8⟩, fun c1 => ⟨fun c2 => absurd c2 (by omega), fun c2 => ⟨Or.inl rfl, bnd (N := 4) rfl i0 (by omega), fun va ea => ⟨rfl, bnd (N := 4) rfl i0 (by omega), ?_⟩⟩⟩⟩
    · rw [hb, show i.toNat = 4 by omega]
    have hi3 : i ≤ 3 := by omega
    obtain ⟨hwi, wt0, wt1⟩ := hX.2.2.1 i.toNat (by omega)
    obtain ⟨mt0, mt1⟩ := hX.2.2.2 i i0 (by omega)
    obtain ⟨vw, vt⟩ := v3 i i0 hi3
    have wr9 : ∀ G : DD, mR (G, rho n1 W) 19 i = W i.toNat := fun G => RF_19 i0 (by omega)
    have e20 : ∀ G : DD, mD (G, rho n1 W) 20 i = G 20 i := fun _ => rfl
    rw [wr9, e20] at *
    have ea : va = led + D 20 i := by rw [ea, v4, w32_id (by omega) (by omega)]
    subst ea
    refine ⟨(sWk_of (n1 := n1) (W := W) hwi).1, fun vb eb => ⟨⟨i0, by show i < ((4 : Nat) : Int); omega⟩, ?_⟩⟩
    have eb : vb = tk + wTicks (wsv D W i) := by
      rw [eb]
      show w32 (tk + E (W i.toNat) 4) = tk + D (W i.toNat) 4
      rw [vt, w32_id (by omega) (by omega)]
    subst eb
    have hst : st i (bstv E) = zlp st (i + 1).toNat (bstv D) := by
      rw [show (i + 1).toNat = i.toNat + 1 by omega]
      show _ = st ((i.toNat : Nat) : Int) (zlp st i.toNat (bstv D))
      rw [← hb, show ((i.toNat : Nat) : Int) = i by omega]
    have next : ∀ (G : DD), Fr (pF len) D G → bstv G = st i (bstv E) → (0 ≤ G 45 6 ∧ G 45 6 ≤ 4) → ∀ v, v = w32 (i + 1) → Wp (d + 6 + f + 1) 0 0 mX9_extend 3 [some (vr 45), some (vr 19), some (vr 20), some (vi len), some (vi led), some (vi tk), some (vi v), none, none] [] (G, rho n1 W) (KV (fun m => ∃ D', m = (D', rho n1 W) ∧ Fr (pF len) D D' ∧ bstv D' = zlp st 4 (bstv D) ∧ (0 ≤ D' 45 6 ∧ D' 45 6 ≤ 4))) := by
      rintro G hG hg g8 v rfl
      rw [w32_id (by omega) (by omega)]
      exact ih (i + 1) _ ⟨G, rfl, hG, by omega, by omega, by rw [hg, hst], g8⟩ (by omega)
    have hstE : st i (bstv E) = zst1 (cupv D 46) (lawO D (W 11)) (wsv D W) (D 20) (D 45 4) (zext (cupv D 46) (lawO D (W 11)) (wsv D W) (D 20) (D 45 4) f) s row led tk i (bstv E) := by rw [← eS]
    unfold zst1 at hstE
    refine ⟨fun c3 v e => next E hF ?_ e8 v e, fun c3 => ⟨rfl, fun c4 v e => next E hF ?_ e8 v e, fun c4 => ⟨⟨i0, by show i < ((4 : Nat) : Int); omega⟩, ?_⟩⟩⟩
    · rw [v4] at c3
      rw [hstE, if_pos c3]
    · rw [v4] at c3
      have c4 : (bstv E).1 ≤ tk + wTicks (wsv D W i) := c4
      rw [hstE, if_neg c3, if_pos c4]
    rw [v4] at c3
    have c4 : ¬ (bstv E).1 ≤ tk + wTicks (wsv D W i) := c4
    rw [if_neg c3, if_neg c4] at hstE
    have hsE : SimS (stv E (52 + 8 * len.toNat)) s := by
      rw [stv_fr hF (fun q j a b => by unfold pF; omega)]
      exact hsim
    have htw : wTicks (wsv D W i) ≤ 1000 := wt1
    have htw0 : 0 ≤ wTicks (wsv D W i) := wt0
    refine cI (C_carries (d := d + f + 1) (D := E) (s := s) hXE.1 hXE.2.1 hwi (by rw [vt]; exact wt0) (by rw [vt]; exact wt1) l0 (by omega) hsE hs (by omega)) ?_ |> fun z => by
      rw [show d + f + 1 + 5 = d + 6 + f by omega] at z
      exact z
    rintro r m1 ⟨G, rfl, hG, hr, hg⟩
    have vw' : wkv E (W i.toNat) = wsv D W i := vw
    rw [v1, v2, vw'] at hr hg
    have hFG : Fr (pF len) D G := hF.trans (hG.mono (fun q j h => by unfold pF; omega))
    have bG : bstv G = bstv E := by
      unfold bstv
      rw [hG.obj (o := 51) (fun j => by omega), hG.obj (o := 45) (fun j => by omega)]
    have g8 : G 45 6 = E 45 6 := hG 45 6 (by omega)
    have hch : Cl (d + 6 + f) 0 0 mX3_choose [vr 45, vi len, vi i] (G, rho n1 W) (KV (fun m => m = (wr G 50 len i, rho n1 W))) := by
      have z := C_choose (d := d + 5 + f) (n1 := n1) (W := W) (D := G) (len := len) (i := i) l0 (by omega)
      rw [show d + 5 + f + 1 = d + 6 + f by omega] at z
      exact z
    refine ⟨fun c5 => ⟨rfl, cV hch (fun m2 e2 => ?_)⟩, fun c5 v e => next G hFG ?_ (by rw [g8]; exact e8) v e⟩
    rotate_left
    · rw [bG, hstE, if_neg (fun z => by rw [hr, bi_1 z] at c5; exact absurd c5 (by decide))]
    have hok : zSum (zgo (cupv D 46) (lawO D (W 11)) (wsv D W i) s) = 0 := Decidable.byContradiction fun z => c5 (by rw [hr]; exact bi_0 z)
    rw [if_pos hok] at hstE
    subst e2
    have hH : Fr (pF len) D (wr G 50 len i) := hFG.wr (by unfold pF; omega)
    have row' : lst (wr G 50 len i 50) (len + 1) = row ++ [i] := by
      rw [wr_A, lst_push l0, ← hrow]
      congr 1
      exact lst_ext (fun k k0 k1 => hFG 50 k (by unfold pF; omega))
    have bH : bstv (wr G 50 len i) = bstv E := by
      rw [← bG]
      unfold bstv
      rw [wr_o (by decide), wr_o (by decide)]
    have h86 : wr G 50 len i 45 4 = D 45 4 := by rw [wr_o (by decide), hFG 45 4 (by unfold pF; omega)]
    have h88 : wr G 50 len i 45 6 = E 45 6 := by rw [wr_o (by decide), g8]
    have hsH : SimS (stv (wr G 50 len i) (60 + 8 * len.toNat)) (zS (zgo (cupv D 46) (lawO D (W 11)) (wsv D W i) s)) := by
      rw [stv_fr (Fr.refl.wr (F := fun q _ => q = 50) rfl) (fun q j a b => by omega)]
      exact hg hok
    generalize wr G 50 len i = H at hH row' bH h86 h88 hsH
    have w1 : w32 (len + 1) = len + 1 := w32_id (by omega) (by omega)
    rw [show mD (H, rho n1 W) 45 4 = D 45 4 from h86, w1]
    refine ⟨rfl, fun c6 => cV (C_noteBest (D := H) (by omega) (by omega)) ?_, fun c6 => cV (K := fun m => ∃ D', m = (D', rho n1 W) ∧ Fr (pF (len + 1)) H D' ∧ bstv D' = zext (cupv H 46) (lawO H (W 11)) (wsv H W) (H 20) (H 45 4) f (zS (zgo (cupv D 46) (lawO D (W 11)) (wsv D W i) s)) (row ++ [i]) (led + D 20 i) (tk + wTicks (wsv D W i)) (bstv H) ∧ (0 ≤ D' 45 6 ∧ D' 45 6 ≤ 4)) ?_ ?_⟩
    · rintro m3 ⟨H2, rfl, k1, k2⟩ v e
      have k8 : 0 ≤ H2 45 6 ∧ H2 45 6 ≤ 4 := by
        have k3 : lst (H2 51) (H2 45 6) = lst (H 50) (len + 1) := congrArg Prod.snd k2
        have := congrArg List.length k3
        rw [lst_len, lst_len] at this
        omega
      refine next H2 (hH.trans (k1.mono (fun q j h => by unfold pF; omega))) ?_ k8 v e
      rw [k2, row', hstE, if_pos c6]
    · obtain ⟨b0, -, -, b3⟩ := zrun_phys (cap := 1040) (c := cupv D 46) (L := lawO D (W 11)) (w := wsv D W i) (t := fun _ => 0) hX.1 (n := (wTicks (wsv D W i)).toNat) (i := 0) (z := zgo0 s) ⟨hs, Int.le_refl 0⟩ (by show (0 : Int) + _ < _; omega) (by show sTick s + _ < _; omega)
      have b3 : sTick (zS (zgo (cupv D 46) (lawO D (W 11)) (wsv D W i) s)) = sTick s + ((wTicks (wsv D W i)).toNat : Int) := b3
      exact C_extend f (d := d) (D := H) (len := len + 1) (hX.fr (hH.mono (pF_q l0))) (by omega) (by omega) row' (by rw [show 52 + 8 * (len + 1).toNat = 60 + 8 * len.toNat by omega]; exact hsH) b0.1 (by rw [b3]; omega) (by omega) (by omega) (by omega) (by rw [h88]; exact e8)
    · rintro m3 ⟨H2, rfl, k1, k2, k8⟩ v e
      refine next H2 (hH.trans (k1.mono (fun q j h => by unfold pF at h ⊢; omega))) ?_ k8 v e
      obtain ⟨u1, u2, u3, u4, u5⟩ := hX.v (hH.mono (pF_q l0))
      rw [k2, u1, u2, u5, bH, hstE, if_neg c6]
      exact zext_ext (fun a a0 a1 => (u3 a a0 a1).1) (fun a _ _ => u4 a)
