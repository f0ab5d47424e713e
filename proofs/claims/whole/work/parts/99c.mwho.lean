/-! ===== the model is asked, 7: far, who ===== -/
def mspots (D : DD) : List Int := lst (D 186) (D 152 57)
def LIn (l : List Int) : Prop := ∀ x ∈ l, 0 ≤ x ∧ x ≤ 2000
theorem znear_rng {t : Int} {ts : List Int} (ht : 0 ≤ t ∧ t ≤ 2000) (hl : LIn ts) : 0 ≤ znear t ts ∧ znear t ts ≤ 1000 := by
  have key : ∀ (l : List Int) (m : Int), LIn l → 0 ≤ m → m ≤ 1000 → 0 ≤ l.foldl (fun m x => min m (zabs (w32 (t - x)))) m ∧ l.foldl (fun m x => min m (zabs (w32 (t - x)))) m ≤ 1000 := by
    intro l
    induction l with
    | nil => intro m _ h0 h1; exact ⟨h0, h1⟩
    | cons x r ih =>
      intro m hr h0 h1
      have hx := hr x List.mem_cons_self
      have e : w32 (t - x) = t - x := w32_id (by omega) (by omega)
      have z : 0 ≤ zabs (w32 (t - x)) := by
        rw [e]
        unfold zabs
        split
        · rw [w32_id (by omega) (by omega)]; omega
        · omega
      exact ih (min m (zabs (w32 (t - x)))) (fun y hy => hr y (List.mem_cons_of_mem _ hy)) (by omega) (by omega)
  exact key ts 1000 hl (by decide) (by decide)
theorem foldl_rng {g : Int → Int} : ∀ (l : List Int) (s : Int), (∀ x ∈ l, 0 ≤ g x ∧ g x ≤ 1000) → 0 ≤ s → s + 1000 * l.length ≤ 2000000000 → 0 ≤ l.foldl (fun s x => w32 (s + g x)) s ∧ l.foldl (fun s x => w32 (s + g x)) s ≤ s + 1000 * l.length
  | [], s, _, h0, _ => ⟨h0, by show s ≤ s + 1000 * ((0 : Nat) : Int); omega⟩
  | x :: r, s, hg, h0, hb => by
    have hx := hg x List.mem_cons_self
    rw [List.length_cons] at hb ⊢
    have e : w32 (s + g x) = s + g x := w32_id (by omega) (by omega)
    show 0 ≤ r.foldl _ (w32 (s + g x)) ∧ r.foldl _ (w32 (s + g x)) ≤ _
    rw [e]
    obtain ⟨a, b⟩ := foldl_rng r (s + g x) (fun y hy => hg y (List.mem_cons_of_mem _ hy)) (by omega) (by omega)
    exact ⟨a, by omega⟩
theorem zdist_rng {sp ts : List Int} (hs : LIn sp) (ht : LIn ts) (l1 : sp.length ≤ 12) (l2 : ts.length ≤ 1050) : 0 ≤ zdist sp ts ∧ zdist sp ts ≤ 2000000 := by
  obtain ⟨a, b⟩ := foldl_rng (g := fun x => znear x ts) sp 0 (fun x hx => znear_rng (hs x hx) ht) (by decide) (by omega)
  obtain ⟨a2, b2⟩ := foldl_rng (g := fun x => znear x sp) ts _ (fun x hx => znear_rng (ht x hx) hs) a (by omega)
  exact ⟨a2, by unfold zdist; omega⟩
theorem zrun_list {cap : Nat} {c : Cv} {L : Option (List Int)} {w : Wv} {t : Int → Int} {B : Int} (hB : B ≤ 2000) : ∀ {n : Nat} {i : Int} {z : Zr}, 0 ≤ sTick (zS z) → sTick (zS z) + n ≤ B → (∀ x ∈ zList z, 0 ≤ x ∧ x ≤ B) → ∀ x ∈ zList (zrun cap c L w t n i z), 0 ≤ x ∧ x ≤ B
  | 0, _, _, _, _, h => h
  | n + 1, i, z, h0, hb, h => by
    have e := zcarry_tick (c := c) (L := L) (w := w) (i := i) (t := t i) (s := zS z)
    have e1 : sTick (zcarry c L w i (t i) (zS z)).2 = sTick (zS z) + 1 := by rw [e, w32_id (by omega) (by omega)]
    rw [zrun_s]
    refine zrun_list hB (by show 0 ≤ sTick (zcarry c L w i (t i) (zS z)).2; omega) (by show sTick (zcarry c L w i (t i) (zS z)).2 + n ≤ B; omega) ?_
    intro x hx
    change x ∈ (if 0 < (zcarry c L w i (t i) (zS z)).1 ∧ (zList z).length < cap then zList z ++ [w32 (sTick (zcarry c L w i (t i) (zS z)).2 - 1)] else zList z) at hx
    split at hx
    · rcases List.mem_append.mp hx with q | q
      · exact h x q
      · rw [List.mem_singleton.mp q, e1, w32_id (by omega) (by omega)]
        omega
    · exact h x hx
theorem zOn_list {c : Cv} {L : Option (List Int)} {w : Wv} {seed : Int} (hw : wTicks w ≤ 1000) : LIn (oList (zOn c L w seed)) ∧ (oList (zOn c L w seed)).length ≤ 1000 := by
  refine ⟨fun x hx => zrun_list (B := 2000) (by decide) (by show (0 : Int) ≤ 0; decide) (by show (0 : Int) + _ ≤ _; omega) (fun x hx => by cases hx) x hx, ?_⟩
  have := zrun_len (cap := 1040) (c := c) (L := L) (w := w) (t := fun _ => 0) (n := (wTicks w).toNat) (i := 0) (z := zbeg0 c seed)
  have e : (zList (zbeg0 c seed)).length = 0 := rfl
  show (zList (zrun 1040 c L w (fun _ => 0) (wTicks w).toNat 0 (zbeg0 c seed))).length ≤ _
  omega
theorem lst_fold {β : Type} {f : Int → Int} {g : β → Int → β} {b : β} {k : Int} (h : 0 ≤ k) : (lst f (k + 1)).foldl g b = g ((lst f k).foldl g b) (f k) := by
  rw [lst_s h, List.foldl_append]
  rfl
def ZW (s : Who) (n a1 a2 a3 a4 : Int) : Prop := (a1 = -1 ∧ s = (2147483647, -1, -1, 0)) ∨ (0 ≤ a1 ∧ 0 ≤ a4 ∧ a4 ≤ n ∧ s = (a3, a1, a2, a4))
section MWH
variable {d n1 : Nat} {W V : Nat → Nat} {D E : DD} {lw : Int → Option (List Int)} {c : Cv}
theorem C_mfarFrom {a h : Int} (ha : 0 ≤ a ∧ a ≤ 3) (hm : MRun D lw) (h0 : MAc D W E V (mcup D)) (hh : 0 ≤ h ∧ h ≤ 3) (sp0 : 0 ≤ D 152 57) (sp1 : D 152 57 ≤ 12) : Cl (d + 131) 0 0 mX10_farFrom [vr 152, vi a, vi h] (E, rho n1 V) (KI (fun x m => ∃ (E' : DD) (U : Nat → Nat), m = (E', rho n1 U) ∧ MAc D W E' U (mcup D) ∧ x = zfar (mcup D) lw (wkm D a) (mspots D) h)) := by
  refine Cl_of mb_X10_farFrom (Nat.le_of_ble_eq_true rfl) (sg_X10_farFrom_0 ⟨rfl, Or.inl rfl, bnd (N := 7) rfl (by decide) (by decide), fun v1 ev => ⟨rfl, bnd (N := 7) rfl (by decide) (by decide), fun m1 e1 => ?_⟩⟩)
  have ev : v1 = cSet (mcup D) 6 := by
    rw [ev, ← h0.2.2.2.1]
    exact (cut_in (n := 7) (f := E 153) (k := 6) (by decide) (by decide)).symm
  subst ev
  have e1 : m1 = (wr E 153 6 h, rho n1 V) := e1
  subst e1
  have h1 := h0.set (k := 6) (v := h) (by decide) (by decide)
  have cc : COK (zSet (mcup D) 6 h) := COK_set hm.2.1 (Or.inr (Or.inr (Or.inr ⟨rfl, hh.1, hh.2⟩)))
  refine m_whole ha hm h1 cc fun F U h2 ht h41 _ => ⟨rfl, rfl, bnd (N := 7) rfl (by decide) (by decide), fun m3 e3 => ?_⟩
  have l6 : lw (cSet (zSet (mcup D) 6 h) 6) = lw h := by
    show lw (zu (cSet (mcup D)) 6 h 6) = _
    rw [zu_at]
  rw [l6, zOn_hand] at ht
  obtain ⟨G, hG⟩ : ∃ G, G = wr F 153 6 (cSet (mcup D) 6) := ⟨_, rfl⟩
  have e3 : m3 = (G, rho n1 U) := by rw [hG]; exact e3
  subst e3
  have h3 : MAc D W G U (mcup D) := by
    rw [hG]
    exact (h2.set (k := 6) (v := cSet (mcup D) 6) (by decide) (by decide)).eq zSet_back
  have q44 : G 152 44 = F 152 44 := by rw [hG, wr_o (by decide)]
  have q173 : G 176 = F 176 := by rw [hG, wr_o (by decide)]
  obtain ⟨t1, t2, t3, t4, t5⟩ := ht
  rw [← q44] at t3 t4 t5
  rw [← q173] at t3
  have q57 : G 152 57 = D 152 57 := h3.2.1 152 57 (by unfold maF; omega)
  have q183 : G 186 = D 186 := h3.2.1.obj (fun j => by unfold maF; omega)
  obtain ⟨N, hN⟩ : ∃ N, N = D 152 57 := ⟨_, rfl⟩
  obtain ⟨M, hM⟩ : ∃ M, M = G 152 44 := ⟨_, rfl⟩
  have g57 : mD (G, rho n1 U) 152 57 = N := by rw [hN]; exact q57
  have g44 : mD (G, rho n1 U) 152 44 = M := hM.symm
  rw [← hN] at sp0 sp1
  rw [← hM] at t3 t4 t5
  have hz : zfar (mcup D) lw (wkm D a) (mspots D) h = (lst (G 176) M).foldl (fun s x => w32 (s + znear x (lst (D 186) N))) ((lst (D 186) N).foldl (fun s x => w32 (s + znear x (lst (G 176) M))) 0) := by
    rw [t3, hN]
    rfl
  rw [hz]
  have bi' : ∀ (i : Int) (L N' : Nat), 0 ≤ i → i < (L : Int) → L ≤ N' → (0 : Int) ≤ i ∧ i < (N' : Int) := fun i L N' a b c => ⟨a, by omega⟩
  -- the second sum
  have second : ∀ s0, s0 = (lst (D 186) N).foldl (fun s x => w32 (s + znear x (lst (G 176) M))) 0 → Wp (d + 131) 0 0 mX10_farFrom 110 [some (vr 152), some (vi a), some (vi h), some (vi (cSet (mcup D) 6)), some (vi s0), some (vi 0), none, none] [] (G, rho n1 U) (KI (fun x m => ∃ (E' : DD) (U : Nat → Nat), m = (E', rho n1 U) ∧ MAc D W E' U (mcup D) ∧ x = (lst (G 176) M).foldl (fun s x => w32 (s + znear x (lst (D 186) N))) ((lst (D 186) N).foldl (fun s x => w32 (s + znear x (lst (G 176) M))) 0))) := by
    intro s0 hs0
    refine Wp.loop (σ := Int × Int) (fun σ => [some (vr 152), some (vi a), some (vi h), some (vi (cSet (mcup D) 6)), some (vi σ.1), some (vi σ.2), none, none])
      (fun σ μ => μ = (G, rho n1 U) ∧ 0 ≤ σ.2 ∧ σ.2 ≤ M ∧ σ.1 = (lst (G 176) σ.2).foldl (fun s x => w32 (s + znear x (lst (D 186) N))) s0)
      (fun σ => (M - σ.2).toNat) ?_ (s0, 0) _ ⟨rfl, Int.le_refl _, t4, by dsimp only; rw [lst_0 (Int.le_refl 0)]; rfl⟩
    rintro ⟨s, i⟩ μ ⟨rfl, i0, i1, hs⟩ ih
    dsimp only at i0 i1 hs ih ⊢
    refine sg_X10_farFrom_110 ⟨rfl, ?_⟩
    rw [g44]
    refine ⟨fun cc => ⟨_, rfl, G, U, rfl, h3, ?_⟩, fun cc => ?_⟩
    · rw [hs, show i = M by omega, hs0]
    refine Wp.loop (σ := Int × Int) (fun σ => [some (vr 152), some (vi a), some (vi h), some (vi (cSet (mcup D) 6)), some (vi s), some (vi i), some (vi σ.1), some (vi σ.2)])
      (fun σ μ => μ = (G, rho n1 U) ∧ 0 ≤ σ.2 ∧ σ.2 ≤ N ∧ σ.1 = (lst (D 186) σ.2).foldl (fun m x => min m (zabs (w32 (G 176 i - x)))) 1000)
      (fun σ => (N - σ.2).toNat) ?_ (1000, 0) _ ⟨rfl, Int.le_refl _, sp0, by dsimp only; rw [lst_0 (Int.le_refl 0)]; rfl⟩
    rintro ⟨nr, j⟩ μ ⟨rfl, j0, j1, hn⟩ ih2
    dsimp only at j0 j1 hn ih2 ⊢
    refine sg_X10_farFrom_127 ⟨rfl, ?_⟩
    rw [g57]
    refine ⟨fun c2 v1 e1 v2 e2 => ?_, fun c2 => ⟨Or.inl rfl, bnd (N := 1050) rfl i0 (by show i < 1050; omega), Or.inl rfl, bnd (N := 12) rfl j0 (by show j < 12; omega), cP C_absz (cP C_min fun v3 e3 => ?_)⟩⟩
    · rw [w32_id (by omega) (by omega)] at e2
      subst e2
      refine ih (v1, i + 1) _ ⟨rfl, by dsimp only; omega, by dsimp only; omega, ?_⟩ (by dsimp only; omega)
      dsimp only
      rw [lst_fold i0, ← hs, e1, hn, show j = N by omega]
      rfl
    · rw [w32_id (by omega) (by omega)] at e3
      subst e3
      refine ih2 (_, j + 1) _ ⟨rfl, by dsimp only; omega, by dsimp only; omega, ?_⟩ (by dsimp only; omega)
      dsimp only
      rw [lst_fold j0, ← hn]
      show min nr (zabs (w32 (G 176 i - G 186 j))) = _
      rw [q183]
  -- the first sum
  refine Wp.loop (σ := Int × Int) (fun σ => [some (vr 152), some (vi a), some (vi h), some (vi (cSet (mcup D) 6)), some (vi σ.1), some (vi σ.2), none, none])
    (fun σ μ => μ = (G, rho n1 U) ∧ 0 ≤ σ.2 ∧ σ.2 ≤ N ∧ σ.1 = (lst (D 186) σ.2).foldl (fun s x => w32 (s + znear x (lst (G 176) M))) 0)
    (fun σ => (N - σ.2).toNat) ?_ (0, 0) _ ⟨rfl, Int.le_refl _, sp0, by dsimp only; rw [lst_0 (Int.le_refl 0)]; rfl⟩
  rintro ⟨s, i⟩ μ ⟨rfl, i0, i1, hs⟩ ih
  dsimp only at i0 i1 hs ih ⊢
  refine sg_X10_farFrom_37 ⟨rfl, ?_⟩
  rw [g57]
  refine ⟨fun cc => second s (by rw [hs, show i = N by omega]), fun cc => ?_⟩
  refine Wp.loop (σ := Int × Int) (fun σ => [some (vr 152), some (vi a), some (vi h), some (vi (cSet (mcup D) 6)), some (vi s), some (vi i), some (vi σ.1), some (vi σ.2)])
    (fun σ μ => μ = (G, rho n1 U) ∧ 0 ≤ σ.2 ∧ σ.2 ≤ M ∧ σ.1 = (lst (G 176) σ.2).foldl (fun m x => min m (zabs (w32 (D 186 i - x)))) 1000)
    (fun σ => (M - σ.2).toNat) ?_ (1000, 0) _ ⟨rfl, Int.le_refl _, t4, by dsimp only; rw [lst_0 (Int.le_refl 0)]; rfl⟩
  rintro ⟨nr, j⟩ μ ⟨rfl, j0, j1, hn⟩ ih2
  dsimp only at j0 j1 hn ih2 ⊢
  refine sg_X10_farFrom_54 ⟨rfl, ?_⟩
  rw [g44]
  refine ⟨fun c2 v1 e1 v2 e2 => ?_, fun c2 => ⟨Or.inl rfl, bnd (N := 1050) rfl j0 (by show j < 1050; omega), Or.inl rfl, bnd (N := 12) rfl i0 (by show i < 12; omega), cP C_absz (cP C_min fun v3 e3 => ?_)⟩⟩
  · rw [w32_id (by omega) (by omega)] at e2
    subst e2
    refine ih (v1, i + 1) _ ⟨rfl, by dsimp only; omega, by dsimp only; omega, ?_⟩ (by dsimp only; omega)
    dsimp only
    rw [lst_fold i0, ← hs, e1, hn, show j = M by omega]
    rfl
  · rw [w32_id (by omega) (by omega)] at e3
    subst e3
    refine ih2 (_, j + 1) _ ⟨rfl, by dsimp only; omega, by dsimp only; omega, ?_⟩ (by dsimp only; omega)
    dsimp only
    rw [lst_fold j0, ← hn, zabs_comm]
    show min nr (zabs (w32 (G 186 i - G 176 j))) = _
    rw [q183]
theorem C_mfar {a h : Int} (hm : MRun D lw) (sp0 : 0 ≤ D 152 57) (sp1 : D 152 57 ≤ 12) : Cl (d + 132) 0 0 mX10_far [vr 152, vi a, vi h] (D, rho n1 W) (KI (Was n1 D W (S_far (mcup D) lw (wkm D) (mspots D) a h))) := by
  refine Cl_of mb_X10_far (Nat.le_of_ble_eq_true rfl) (sg_X10_far_0 ⟨rfl, fun m1 e1 => ?_⟩)
  obtain ⟨E, hE⟩ : ∃ E, E = wr D 152 15 0 := ⟨_, rfl⟩
  have e1 : m1 = (E, rho n1 W) := by rw [hE]; exact e1
  subst e1
  have h0 : MAc D W E W (mcup D) := MAc.beg hE
  have hLE := (h0.mr hm hm.2.1).2.2.2.1
  have s25 : (0 ≤ a ∧ a ≤ 3) → (h = 3 ∨ (lw h).isSome = true) → (0 ≤ h ∧ h ≤ 3) → Wp (d + 132) 0 0 mX10_far 25 [some (vr 152), some (vi a), some (vi h)] [] (E, rho n1 W) (KI (Was n1 D W (S_far (mcup D) lw (wkm D) (mspots D) a h))) := by
    intro hi hh hb
    refine sg_X10_far_25 ⟨rfl, cI (C_mfarFrom hi hm h0 hb sp0 sp1) ?_⟩
    rintro x m ⟨F, U, rfl, h2, hx⟩
    refine ⟨_, rfl, Was_no h2 ?_ rfl⟩
    rw [hx]
    exact (if_pos ⟨hi, hh⟩).symm
  refine cB C_misWalk (fun hi => yE ⟨fun c => s25 hi (Or.inl c) (by omega), fun c => ⟨rfl, cB (C_misLaw (D := E)) (fun hl => yE (s25 hi (Or.inr (hLE.is.mpr hl)) (by omega))) (fun hl => nE ⟨_, rfl, Was_no h0 (if_neg (fun q => ?_)).symm rfl⟩)⟩⟩) (fun hi => nE ⟨_, rfl, Was_no h0 (if_neg (fun q => hi q.1)).symm rfl⟩)
  rcases q.2 with z | z
  · exact c z
  · exact hl (hLE.is.mp z)
theorem C_mwho (hm : MRun D lw) (sp0 : 0 ≤ D 152 57) (sp1 : D 152 57 ≤ 12) (hsp : LIn (mspots D)) : Cl (d + 132) 0 0 mX10_who [vr 152] (D, rho n1 W) (KI (Was n1 D W (S_who (mcup D) lw (wkm D) (mspots D)))) := by
  refine Cl_of mb_X10_who (Nat.le_of_ble_eq_true rfl) (sg_X10_who_0 ⟨rfl, fun m1 e1 => ?_⟩)
  obtain ⟨E, hE⟩ : ∃ E, E = wr D 152 15 0 := ⟨_, rfl⟩
  have e1 : m1 = (E, rho n1 W) := by rw [hE]; exact e1
  subst e1
  have h0 : MAc D W E W (mcup D) := MAc.beg hE
  obtain ⟨S, hS⟩ : ∃ S, S = S_who (mcup D) lw (wkm D) (mspots D) := ⟨_, rfl⟩
  rw [← hS]
  have hS : S = if (zwho (mcup D) lw (wkm D) (mspots D) 16).2.1 = -1 then (-2, none) else ((zwho (mcup D) lw (wkm D) (mspots D) 16).1, some [(zwho (mcup D) lw (wkm D) (mspots D) 16).2.1, (zwho (mcup D) lw (wkm D) (mspots D) 16).2.2.1, (zwho (mcup D) lw (wkm D) (mspots D) 16).2.2.2]) := hS
  have hlen : (mspots D).length ≤ 12 := by
    unfold mspots
    rw [lst_len]
    omega
  refine Wp.loop (σ := (Int × Int × Int × Int) × Int) (fun σ => [some (vr 152), some (vi σ.1.1), some (vi σ.1.2.1), some (vi σ.1.2.2.1), some (vi σ.1.2.2.2), some (vi σ.2), none, none])
    (fun σ μ => ∃ (E : DD) (V : Nat → Nat), μ = (E, rho n1 V) ∧ MAc D W E V (mcup D) ∧ 0 ≤ σ.2 ∧ σ.2 ≤ 4 ∧ ZW (zwho (mcup D) lw (wkm D) (mspots D) (4 * σ.2).toNat) (4 * σ.2) σ.1.1 σ.1.2.1 σ.1.2.2.1 σ.1.2.2.2)
    (fun σ => (4 - σ.2).toNat) ?_ ((-1, -1, 0, 0), 0) _ ⟨E, W, rfl, h0, by decide, by decide, Or.inl ⟨rfl, rfl⟩⟩
  rintro ⟨⟨a1, a2, a3, a4⟩, w⟩ μ ⟨E, V, rfl, h, w0, w1, hz⟩ ih
  dsimp only at w0 w1 hz ih ⊢
  refine sg_X10_who_17 ⟨fun c => ?_, fun c => ?_⟩
  · rw [show (4 * w).toNat = 16 by omega] at hz
    generalize zwho (mcup D) lw (wkm D) (mspots D) 16 = Z at hz hS
    rcases hz with ⟨q1, q2⟩ | ⟨q1, q2, q3, q4⟩
    · refine ⟨fun c2 => absurd q1 c2, fun _ => ⟨_, rfl, Was_no h ?_ ?_⟩⟩
      · rw [hS, q2]
        rfl
      · rw [hS, q2]
        rfl
    · refine ⟨fun c2 => ⟨rfl, fun m1 e1 => ?_⟩, fun c2 => by omega⟩
      rw [q4, if_neg (show ¬ a1 = -1 by omega)] at hS
      have e1 : m1 = (wr E 152 14 0, rho n1 V) := e1
      subst e1
      refine cV (C_mtl (MTl.beg (E := E)) (by decide)) ?_
      rintro m ⟨G1, rfl, g1⟩
      refine ⟨rfl, cV (C_mtl g1 (by simp)) ?_⟩
      rintro m ⟨G2, rfl, g2⟩
      refine ⟨rfl, cV (C_mtl g2 (by simp)) ?_⟩
      rintro m ⟨G3, rfl, g3⟩
      exact ⟨_, rfl, Was_tell h g3 (by rw [hS]) (by rw [hS]; rfl)⟩
  refine Wp.loop (σ := (Int × Int × Int × Int) × Int) (fun σ => [some (vr 152), some (vi σ.1.1), some (vi σ.1.2.1), some (vi σ.1.2.2.1), some (vi σ.1.2.2.2), some (vi w), some (vi σ.2), none])
    (fun σ μ => ∃ (E : DD) (V : Nat → Nat), μ = (E, rho n1 V) ∧ MAc D W E V (mcup D) ∧ 0 ≤ σ.2 ∧ σ.2 ≤ 4 ∧ ZW (zwho (mcup D) lw (wkm D) (mspots D) (4 * w + σ.2).toNat) (4 * w + σ.2) σ.1.1 σ.1.2.1 σ.1.2.2.1 σ.1.2.2.2)
    (fun σ => (4 - σ.2).toNat) ?_ ((a1, a2, a3, a4), 0) _ ⟨E, V, rfl, h, by dsimp only; decide, by dsimp only; decide, by dsimp only; rw [Int.add_zero]; exact hz⟩
  clear hz h
  rintro ⟨⟨a1, a2, a3, a4⟩, h⟩ μ ⟨E, V, rfl, hA, h0', h1', hz⟩ ih2
  dsimp only at h0' h1' hz ih2 ⊢
  refine sg_X10_who_26 ⟨fun c2 v ev => ?_, fun c2 => ⟨rfl, Or.inl rfl, bnd (N := 4) rfl w0 (by omega), ?_⟩⟩
  · rw [w32_id (by omega) (by omega)] at ev
    subst ev
    refine ih ((a1, a2, a3, a4), w + 1) _ ⟨E, V, rfl, hA, by dsimp only; omega, by dsimp only; omega, ?_⟩ (by dsimp only; omega)
    dsimp only
    rw [show 4 * (w + 1) = 4 * w + h by omega]
    exact hz
  have hwt : mD (E, rho n1 V) (mR (E, rho n1 V) 152 22) w = wTicks (wkm D w) := hA.2.1 161 w (by unfold maF; omega)
  rw [hwt]
  have stepz : zwho (mcup D) lw (wkm D) (mspots D) (4 * w + (h + 1)).toNat = zwho1 (mcup D) lw (wkm D) (mspots D) w h (zwho (mcup D) lw (wkm D) (mspots D) (4 * w + h).toNat) := by
    rw [show (4 * w + (h + 1)).toNat = (4 * w + h).toNat + 1 by omega]
    show zwho1 (mcup D) lw (wkm D) (mspots D) (((4 * w + h).toNat / 4 : Nat)) (((4 * w + h).toNat % 4 : Nat)) _ = _
    rw [show (((4 * w + h).toNat / 4 : Nat) : Int) = w by omega, show (((4 * w + h).toNat % 4 : Nat) : Int) = h by omega]
  generalize zwho (mcup D) lw (wkm D) (mspots D) (4 * w + h).toNat = Z at hz stepz
  have skip : (wTicks (wkm D w) = 0 ∨ ¬ (h = 3 ∨ (lw h).isSome = true)) → ∀ v, v = w32 (h + 1) → Wp (d + 132) 0 0 mX10_who 26 [some (vr 152), some (vi a1), some (vi a2), some (vi a3), some (vi a4), some (vi w), some (vi v), none] [] (E, rho n1 V) (KI (Was n1 D W S)) := by
    intro hno v ev
    rw [w32_id (by omega) (by omega)] at ev
    subst ev
    refine ih2 ((a1, a2, a3, a4), h + 1) _ ⟨E, V, rfl, hA, by dsimp only; omega, by dsimp only; omega, ?_⟩ (by dsimp only; omega)
    dsimp only
    rw [stepz]
    unfold zwho1
    rw [if_pos hno]
    rcases hz with q | ⟨q1, q2, q3, q4⟩
    · exact Or.inl q
    · exact Or.inr ⟨q1, q2, by omega, q4⟩
  have hLE := (hA.mr hm hm.2.1).2.2.2.1
  have s60 : ¬ wTicks (wkm D w) = 0 → (h = 3 ∨ (lw h).isSome = true) → Wp (d + 132) 0 0 mX10_who 60 [some (vr 152), some (vi a1), some (vi a2), some (vi a3), some (vi a4), some (vi w), some (vi h), none] [] (E, rho n1 V) (KI (Was n1 D W S)) := by
    intro hw hh
    refine sg_X10_who_60 ⟨rfl, cI (C_mfarFrom ⟨w0, by omega⟩ hm hA ⟨h0', by omega⟩ sp0 sp1) ?_⟩
    rintro x m ⟨F, U, rfl, hF, hx⟩
    obtain ⟨li, ll⟩ := zOn_list (c := mcup D) (L := lw h) (w := wkm D w) (seed := 1) (hm.2.2.2.2 w w0 (by omega)).2
    have hr : 0 ≤ x ∧ x ≤ 2000000 := by
      rw [hx]
      exact zdist_rng hsp li hlen (by omega)
    have sz : zwho1 (mcup D) lw (wkm D) (mspots D) w h Z = if x < Z.1 then (x, w, h, 1) else (Z.1, Z.2.1, Z.2.2.1, w32 (Z.2.2.2 + (if x = Z.1 then 1 else 0))) := by
      unfold zwho1
      rw [if_neg (fun q => by
        rcases q with q | q
        · exact hw q
        · exact q hh), ← hx]
    rw [sz] at stepz
    have wh1 : w32 (h + 1) = h + 1 := w32_id (by omega) (by omega)
    have s101 : x < Z.1 → Wp (d + 132) 0 0 mX10_who 101 [some (vr 152), some (vi a1), some (vi a2), some (vi a3), some (vi a4), some (vi w), some (vi h), some (vi x)] [] (F, rho n1 U) (KI (Was n1 D W S)) := by
      intro hl
      refine sg_X10_who_101 fun v ev => ?_
      rw [wh1] at ev
      subst ev
      refine ih2 ((w, h, x, 1), h + 1) _ ⟨F, U, rfl, hF, by dsimp only; omega, by dsimp only; omega, ?_⟩ (by dsimp only; omega)
      dsimp only
      rw [stepz, if_pos hl]
      exact Or.inr ⟨w0, by decide, by omega, rfl⟩
    have Z1 : ¬ a1 = -1 → Z.1 = a3 := fun c => by
      rcases hz with ⟨q, -⟩ | ⟨-, -, -, q4⟩
      · exact absurd q c
      · rw [q4]
    have Zi : a1 = -1 → x < Z.1 := fun c => by
      rcases hz with ⟨-, q⟩ | ⟨q1, -, -, -⟩
      · rw [q]
        show x < 2147483647
        omega
      · omega
    have s84 : (a1 = -1 ∨ x ≤ a3) → Wp (d + 132) 0 0 mX10_who 84 [some (vr 152), some (vi a1), some (vi a2), some (vi a3), some (vi a4), some (vi w), some (vi h), some (vi x)] [] (F, rho n1 U) (KI (Was n1 D W S)) := by
      intro hor
      refine sg_X10_who_84 ⟨fun c => s101 (Zi c), fun c => ⟨fun c3 => s101 (by rw [Z1 c]; omega), fun c3 v1 e1 v2 e2 => ?_⟩⟩
      rw [wh1] at e2
      subst e2
      rcases hz with ⟨q, -⟩ | ⟨q1, q2, q3, q4⟩
      · exact absurd q c
      rw [w32_id (by omega) (by omega)] at e1
      subst e1
      refine ih2 ((a1, a2, a3, a4 + 1), h + 1) _ ⟨F, U, rfl, hF, by dsimp only; omega, by dsimp only; omega, ?_⟩ (by dsimp only; omega)
      dsimp only
      rw [stepz, q4]
      dsimp only
      rw [if_neg (by omega), if_pos c3, w32_id (by omega) (by omega)]
      exact Or.inr ⟨q1, by omega, by omega, rfl⟩
    refine ⟨fun c => s84 (Or.inl c), fun c => ⟨fun c3 => s84 (Or.inr c3), fun c3 v ev => ?_⟩⟩
    rw [wh1] at ev
    subst ev
    rcases hz with ⟨q, -⟩ | ⟨q1, q2, q3, q4⟩
    · exact absurd q c
    refine ih2 ((a1, a2, a3, a4), h + 1) _ ⟨F, U, rfl, hF, by dsimp only; omega, by dsimp only; omega, ?_⟩ (by dsimp only; omega)
    dsimp only
    rw [stepz, q4]
    dsimp only
    rw [if_neg (by omega), if_neg (by omega), Int.add_zero, w32_id (by omega) (by omega)]
    exact Or.inr ⟨q1, q2, by omega, rfl⟩
  refine ⟨fun c3 v ev => skip (Or.inl c3) v ev, fun c3 => ⟨fun c4 => s60 c3 (Or.inl c4), fun c4 => cB (C_misLaw (D := E)) (fun hl => yN (s60 c3 (Or.inr (hLE.is.mpr hl)))) (fun hl => nN (fun v ev => skip (Or.inr (fun q => ?_)) v ev))⟩⟩
  rcases q with z | z
  · exact c4 z
  · exact hl (hLE.is.mp z)
end MWH
