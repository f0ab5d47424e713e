/-! ===== the model is asked: how it would be ===== -/
def maF (q : Nat) (j : Int) : Prop := (q = 152 ∧ (j = 0 ∨ j = 1 ∨ j = 2 ∨ j = 5 ∨ j = 10 ∨ j = 14 ∨ j = 15 ∨ (18 ≤ j ∧ j ≤ 21) ∨ (36 ≤ j ∧ j ≤ 44) ∨ j = 46 ∨ j = 52 ∨ j = 53)) ∨ (153 ≤ q ∧ q ≤ 158) ∨ q = 160 ∨ q = 176 ∨ (q = 177 ∧ 315 ≤ j) ∨ q = 178 ∨ q = 179 ∨ (181 ≤ q ∧ q ≤ 185)
/-- the model is as it was, but for its cup and what it tells -/
def MAc (D : DD) (W : Nat → Nat) (E : DD) (V : Nat → Nat) (c : Cv) : Prop := V12 W V ∧ Fr maF D E ∧ mst E = mst D ∧ mcup E = c ∧ E 152 15 = 0 ∧ MTV E = MTV D
/-- an answer, what is told, nothing else -/
def Was (n1 : Nat) (D : DD) (W : Nat → Nat) (S : Int × Option (List Int)) (r : Int) (m : Mem) : Prop := ∃ (D' : DD) (V : Nat → Nat), m = (D', rho n1 V) ∧ V12 W V ∧ Fr maF D D' ∧ mst D' = mst D ∧ mcup D' = mcup D ∧ D' 152 15 = 0 ∧ r = S.1 ∧ MTV D' = tvn S.2 (MTV D)
/-- so much is told -/
def MTl (E G : DD) (l : List Int) : Prop := Fr mtF E G ∧ mtoldv G = l ∧ G 152 14 = l.length
theorem zSet_back {c : Cv} {k v : Int} : zSet (zSet c k v) k (cSet c k) = c := by
  have e : zu (zu (cSet c) k v) k (cSet c k) = cSet c := by
    funext j
    unfold zu
    split
    · rename_i h
      rw [h]
    · rfl
  unfold zSet
  show (_, _, _, zu (zu (cSet c) k v) k (cSet c k), _) = c
  rw [e]
  rfl
theorem zSet_zSet {c : Cv} {k v v' : Int} : zSet (zSet c k v) k v' = zSet c k v' := by
  have e : zu (zu (cSet c) k v) k v' = zu (cSet c) k v' := by
    funext j
    unfold zu
    split <;> rfl
  unfold zSet
  show (_, _, _, zu (zu (cSet c) k v) k v', _) = (_, _, _, zu (cSet c) k v', _)
  rw [e]
  rfl
theorem zSet_ne {c : Cv} {k v j : Int} (h : j ≠ k) : cSet (zSet c k v) j = cSet c j := if_neg h
theorem zOut_bnd {c : Cv} {L : Option (List Int)} {w : Wv} {t : Int → Int} {n : Nat} {i seed : Int} (hc : COK c) (hn : n ≤ 2000) : 0 ≤ oSum (zOut c L w t n i seed) ∧ oSum (zOut c L w t n i seed) ≤ 160000000 := by
  have hz := zbeg0_ok (seed := seed) hc
  obtain ⟨a, b, e, -⟩ := zrun_phys (cap := 1040) (L := L) (w := w) (t := t) hc (n := n) (i := i) hz (by show (0 : Int) + _ < _; omega) (by show (0 : Int) + _ < _; omega)
  have h0 : zSum (zbeg0 c seed) = 0 := rfl
  refine ⟨a.2, ?_⟩
  show zSum _ ≤ _
  omega
theorem zOn_nn {c : Cv} {L : Option (List Int)} {w : Wv} {seed : Int} (hc : COK c) (hw : wTicks w ≤ 1000) : 0 ≤ oSum (zOn c L w seed) ∧ oSum (zOn c L w seed) ≤ 160000000 := zOut_bnd hc (by omega)
section MAS
variable {d n1 : Nat} {W V : Nat → Nat} {D E : DD} {lw : Int → Option (List Int)} {c : Cv}
theorem COK.mb (h : COK (mcup E)) : MB E := by
  obtain ⟨l0, l1, -⟩ := h
  have e : cLast (mcup E) = E 152 0 - 1 := rfl
  exact ⟨by omega, by omega⟩
theorem MAc.beg {E : DD} (hE : E = wr D 152 15 0) : MAc D W E W (mcup D) := by
  subst hE
  have f : Fr (fun q j => q = 152 ∧ j = 15) D (wr D 152 15 0) := Fr.refl.wr ⟨rfl, rfl⟩
  refine ⟨V12.refl, f.mono (fun q j z => by unfold maF; omega), mst_fr f (by omega) (by omega) (fun q j x y => by omega), mcup_fr f (fun j x y => by omega) (fun q j x y => by omega), wr_at, ?_⟩
  unfold MTV mtoldv
  rw [wr_j (by decide), wr_o (by decide)]
theorem MAc.run {E' : DD} {U : Nat → Nat} (h : MAc D W E V c) (hU : V12 V U) (f : Fr mrF E E') (hs : mst E' = mst E) : MAc D W E' U c := by
  obtain ⟨h1, h2, h3, h4, h5, h6⟩ := h
  refine ⟨h1.trans hU, h2.trans (f.mono (fun q j z => by unfold mrF mgF at z; unfold maF; omega)), hs.trans h3, (mcup_mr f).trans h4, by rw [f 152 15 (by unfold mrF mgF; omega)]; exact h5, ?_⟩
  rw [← h6]
  unfold MTV mtoldv
  rw [f 152 14 (by unfold mrF mgF; omega), f.obj (o := 160) (fun j => by unfold mrF mgF; omega)]
theorem MAc.set {k v : Int} (h : MAc D W E V c) (k0 : 0 ≤ k) (k1 : k < 7) : MAc D W (wr E 153 k v) V (zSet c k v) := by
  obtain ⟨h1, h2, h3, h4, h5, h6⟩ := h
  have f : Fr (fun q _ => q = 153) E (wr E 153 k v) := Fr.refl.wr rfl
  refine ⟨h1, h2.trans (f.mono (fun q j z => by unfold maF; omega)), (mst_fr f (by omega) (by omega) (fun q j x y => by omega)).trans h3, ?_, by rw [wr_o (by decide)]; exact h5, ?_⟩
  · rw [← h4]
    unfold mcup zSet
    rw [wr_o (o := 152) (by decide), wr_o (o := 154) (by decide), wr_A, cut_zu k0 k1]
    rfl
  · rw [← h6]
    unfold MTV mtoldv
    rw [wr_o (o := 152) (by decide), wr_o (o := 160) (by decide)]
theorem MAc.hole {k v : Int} (h : MAc D W E V c) (k0 : 0 ≤ k) (k1 : k < 20) : MAc D W (wr E 154 k v) V (zHole c k v) := by
  obtain ⟨h1, h2, h3, h4, h5, h6⟩ := h
  have f : Fr (fun q _ => q = 154) E (wr E 154 k v) := Fr.refl.wr rfl
  refine ⟨h1, h2.trans (f.mono (fun q j z => by unfold maF; omega)), (mst_fr f (by omega) (by omega) (fun q j x y => by omega)).trans h3, ?_, by rw [wr_o (by decide)]; exact h5, ?_⟩
  · rw [← h4]
    unfold mcup zHole
    rw [wr_o (o := 152) (by decide), wr_o (o := 153) (by decide), wr_A, cut_zu k0 k1]
    rfl
  · rw [← h6]
    unfold MTV mtoldv
    rw [wr_o (o := 152) (by decide), wr_o (o := 160) (by decide)]
theorem MAc.mr (h : MAc D W E V c) (hm : MRun D lw) (hc : COK c) : MRun E lw := by
  obtain ⟨h1, h2, h3, h4, h5, h6⟩ := h
  have hc' : COK (mcup E) := by rw [h4]; exact hc
  refine ⟨hc'.mb, hc', by rw [h3]; exact hm.2.2.1, hm.2.2.2.1.fr h2 (fun q j x y => by unfold maF; omega), fun a a0 a1 => ?_⟩
  rw [h2 161 a (by unfold maF; omega)]
  exact hm.2.2.2.2 a a0 a1
theorem MAc.wk (h : MAc D W E V c) (a : Int) : wkm E a = wkm D a := wkm_fr h.2.1 (fun q j x y => by unfold maF; omega)
theorem MAc.hl (h : MAc D W E V c) : mhl E lw = lw (cSet c 6) := by
  unfold mhl
  rw [h.2.2.2.1]
theorem MAc.eq {c' : Cv} (h : MAc D W E V c) (e : c = c') : MAc D W E V c' := e ▸ h
theorem MTl.beg : MTl E (wr E 152 14 0) [] := ⟨Fr.refl.wr (Or.inr ⟨rfl, rfl⟩), lst_0 (by rw [wr_at]; decide), wr_at⟩
theorem C_mtl {G : DD} {l : List Int} {x : Int} (h : MTl E G l) (hl : l.length < 8) : Cl d 0 0 mX10_tell [vr 152, vl x] (G, rho n1 V) (KV (fun m => ∃ G', m = (G', rho n1 V) ∧ MTl E G' (l ++ [x]))) := by
  obtain ⟨h1, h2, h3⟩ := h
  refine Cl.weak (KV.weak ?_) (C_mtell (D := G) (x := x) (by omega) (by omega))
  rintro m ⟨G', rfl, f, e1, e2⟩
  refine ⟨G', rfl, h1.trans f, by rw [e1, h2], ?_⟩
  rw [e2, h3, List.length_append, List.length_singleton]
  omega
theorem Was_no {S : Int × Option (List Int)} {x : Int} (h : MAc D W E V (mcup D)) (hx : x = S.1) (hs : S.2 = none) : Was n1 D W S x (E, rho n1 V) := by
  obtain ⟨h1, h2, h3, h4, h5, h6⟩ := h
  exact ⟨E, V, rfl, h1, h2, h3, h4, h5, hx, by rw [hs, h6]; rfl⟩
theorem Was_tell {G : DD} {l : List Int} {S : Int × Option (List Int)} {x : Int} (h : MAc D W E V (mcup D)) (g : MTl E G l) (hx : x = S.1) (hs : S.2 = some l) : Was n1 D W S x (G, rho n1 V) := by
  obtain ⟨h1, h2, h3, h4, h5, h6⟩ := h
  obtain ⟨g1, g2, g3⟩ := g
  refine ⟨G, V, rfl, h1, h2.trans (g1.mono (fun q j z => by unfold mtF at z; unfold maF; omega)), ?_, ?_, by rw [g1 152 15 (by unfold mtF; omega), h5], hx, ?_⟩
  · rw [mst_fr g1 (by unfold mtF; omega) (by unfold mtF; omega) (fun q j x y => by unfold mtF; omega), h3]
  · rw [mcup_fr g1 (fun j x y => by unfold mtF; omega) (fun q j x y => by unfold mtF; omega), h4]
  · rw [hs]
    show (mtoldv G, G 152 14) = (l, (l.length : Int))
    rw [g2, g3]
/-- a whole run with the cup as it is now -/
theorem m_whole {a seed : Int} {P : Nat → Nat → Int → Mem → Prop} {bc bs : Nat} (ha : 0 ≤ a ∧ a ≤ 3) (hm : MRun D lw) (h : MAc D W E V c) (hc : COK c)
    (k : ∀ (E' : DD) (U : Nat → Nat), MAc D W E' U c → MTold E' (zOn c (lw (cSet c 6)) (wkm D a) seed) → E' 152 41 = zstepAt (wkm D a) (oFirst (zOn c (lw (cSet c 6)) (wkm D a) seed)) → Fr mrF E E' → P 0 0 (oSum (zOn c (lw (cSet c 6)) (wkm D a) seed)) (E', rho n1 U)) :
    ∃ (mc1 ms1 : Nat) (K1 : Int → Mem → Prop), Cl (d + 130) mc1 ms1 mX10_wholly [vr 152, vi a, vi seed] (E, rho n1 V) (KI K1) ∧ mc1 ≤ bc ∧ ms1 ≤ bs ∧ (∀ x1 m1, K1 x1 m1 → P mc1 ms1 x1 m1) := by
  refine cI (C_mwholly (D := E) (lw := lw) (a := a) (seed := seed) ha (h.mr hm hc)) ?_
  rintro x m ⟨E', U, rfl, hU, f, hs, hx, ht, h41⟩
  rw [h.wk a, h.hl, h.2.2.2.1] at hx ht h41
  rw [hx]
  exact k E' U (h.run hU f hs) ht h41 f
theorem C_mwould {a v : Int} (hm : MRun D lw) : Cl (d + 131) 0 0 mX10_would [vr 152, vi a, vi v] (D, rho n1 W) (KI (Was n1 D W (S_would (mcup D) (mhl D lw) (wkm D) a v))) := by
  refine Cl_of mb_X10_would (Nat.le_of_ble_eq_true rfl) (sg_X10_would_0 ⟨rfl, fun m1 e1 => ?_⟩)
  obtain ⟨E, hE⟩ : ∃ E, E = wr D 152 15 0 := ⟨_, rfl⟩
  have e1 : m1 = (E, rho n1 W) := by rw [hE]; exact e1
  subst e1
  have h0 : MAc D W E W (mcup D) := MAc.beg hE
  refine cB C_misWalk (fun hi => yN ⟨rfl, m_whole hi hm h0 hm.2.1 fun F U h ht h41 _ => ⟨rfl, fun m4 e4 => ?_⟩⟩) (fun hi => nN ⟨_, rfl, Was_no h0 (by unfold S_would; rw [if_neg hi]) (by unfold S_would; rw [if_neg hi])⟩)
  have e4 : m4 = (wr F 152 14 0, rho n1 U) := e4
  subst e4
  have q40 : F 152 40 = oFirst (zOn (mcup D) (mhl D lw) (wkm D a) v) := ht.1
  have q42 : F 152 42 = oHigh (zOn (mcup D) (mhl D lw) (wkm D a) v) := ht.2.1
  refine cV (C_mtl (MTl.beg (E := F)) (by decide)) ?_
  rintro m ⟨G1, rfl, g1⟩
  refine ⟨rfl, cV (C_mtl g1 (by simp)) ?_⟩
  rintro m ⟨G2, rfl, g2⟩
  refine ⟨rfl, cV (C_mtl g2 (by simp)) ?_⟩
  rintro m ⟨G3, rfl, g3⟩
  refine ⟨_, rfl, Was_tell h g3 ?_ ?_⟩
  · unfold S_would
    rw [if_pos hi]
    rfl
  · unfold S_would
    rw [if_pos hi]
    show some [oFirst (zOn (mcup D) (mhl D lw) (wkm D a) v), zstepAt (wkm D a) (oFirst (zOn (mcup D) (mhl D lw) (wkm D a) v)), oHigh (zOn (mcup D) (mhl D lw) (wkm D a) v)] = some [wr F 152 14 0 152 40, G1 152 41, G2 152 42]
    rw [wr_j (by decide), g1.1 152 41 (by unfold mtF; omega), g2.1 152 42 (by unfold mtF; omega), q40, q42, h41]
    rfl
theorem C_mfull {a : Int} (hm : MRun D lw) : Cl (d + 131) 0 0 mX10_full [vr 152, vi a] (D, rho n1 W) (KI (Was n1 D W (S_full (mcup D) (mhl D lw) (wkm D) a))) := by
  refine Cl_of mb_X10_full (Nat.le_of_ble_eq_true rfl) (sg_X10_full_0 ⟨rfl, fun m1 e1 => ?_⟩)
  obtain ⟨E, hE⟩ : ∃ E, E = wr D 152 15 0 := ⟨_, rfl⟩
  have e1 : m1 = (E, rho n1 W) := by rw [hE]; exact e1
  subst e1
  have h0 : MAc D W E W (mcup D) := MAc.beg hE
  refine cB C_misWalk (fun hi => yN ⟨rfl, fun v1 ev => ?_⟩) (fun hi => nN ⟨_, rfl, Was_no h0 (if_neg hi).symm rfl⟩)
  have ev : v1 = cFill (mcup D) := by
    rw [ev, ← h0.2.2.2.1]
    rfl
  subst ev
  have hS : (S_full (mcup D) (mhl D lw) (wkm D) a).1 = zfull (mcup D) (mhl D lw) (wkm D a) 21 := if_pos hi
  -- the cup with another FILL
  have fill : ∀ {E : DD} {V : Nat → Nat} {f x : Int}, MAc D W E V ((mcup D).1, (mcup D).2.1, f, (mcup D).2.2.2) → MAc D W (wr E 152 2 x) V ((mcup D).1, (mcup D).2.1, x, (mcup D).2.2.2) := by
    rintro E V f x ⟨q1, q2, q3, q4, q5, q6⟩
    have fw : Fr (fun q j => q = 152 ∧ j = 2) E (wr E 152 2 x) := Fr.refl.wr ⟨rfl, rfl⟩
    refine ⟨q1, q2.trans (fw.mono (fun q j z => by unfold maF; omega)), (mst_fr fw (by omega) (by omega) (fun q j x y => by omega)).trans q3, ?_, by rw [wr_j (by decide)]; exact q5, ?_⟩
    · unfold mcup at q4 ⊢
      simp only [Prod.mk.injEq] at q4
      rw [wr_at, wr_j (by decide), wr_j (by decide), wr_o (by decide), wr_o (by decide), q4.1, q4.2.1, q4.2.2.2.1, q4.2.2.2.2]
    · rw [← q6]
      unfold MTV mtoldv
      rw [wr_j (by decide), wr_o (by decide)]
  have s69 : ∀ (E : DD) (V : Nat → Nat) (f x k : Int), MAc D W E V ((mcup D).1, (mcup D).2.1, f, (mcup D).2.2.2) → x = zfull (mcup D) (mhl D lw) (wkm D a) 21 → Wp (d + 131) 0 0 mX10_full 69 [some (vr 152), some (vi a), some (vi (cFill (mcup D))), some (vi x), some (vi k)] [] (E, rho n1 V) (KI (Was n1 D W (S_full (mcup D) (mhl D lw) (wkm D) a))) := by
    intro E V f x k h hx
    refine sg_X10_full_69 ⟨rfl, fun m1 e1 => ?_⟩
    have e1 : m1 = (wr E 152 2 (cFill (mcup D)), rho n1 V) := e1
    subst e1
    exact ⟨_, rfl, Was_no (fill h) (hx.trans hS.symm) rfl⟩
  refine Wp.loop (σ := Int × Int) (fun σ => [some (vr 152), some (vi a), some (vi (cFill (mcup D))), some (vi σ.1), some (vi σ.2)])
    (fun σ μ => ∃ (E : DD) (V : Nat → Nat) (f : Int), μ = (E, rho n1 V) ∧ MAc D W E V ((mcup D).1, (mcup D).2.1, f, (mcup D).2.2.2) ∧ -1 ≤ σ.2 ∧ σ.2 ≤ 20 ∧ (σ.1 = -2 ∧ zfull (mcup D) (mhl D lw) (wkm D a) 21 = zfull (mcup D) (mhl D lw) (wkm D a) (σ.2 + 1).toNat ∨ 0 ≤ σ.1 ∧ σ.1 = zfull (mcup D) (mhl D lw) (wkm D a) 21))
    (fun σ => (σ.2 + 1).toNat) ?_ (-2, 20) _ ⟨E, W, cFill (mcup D), rfl, h0, by decide, by decide, Or.inl ⟨rfl, rfl⟩⟩
  rintro ⟨x, k⟩ μ ⟨E, V, f, rfl, h, k0, k1, hx⟩ ih
  dsimp only at k0 k1 hx ih ⊢
  refine sg_X10_full_26 ⟨fun c => ?_, fun c => ⟨fun c2 => ?_, fun c2 => ⟨rfl, fun m1 e1 => ?_⟩⟩⟩
  · refine s69 E V f x k h ?_
    rcases hx with ⟨q1, q2⟩ | ⟨-, q2⟩
    · rw [q2, q1, show (k + 1).toNat = 0 by omega]
      rfl
    · exact q2
  · refine s69 E V f x k h ?_
    rcases hx with ⟨q1, q2⟩ | ⟨-, q2⟩
    · omega
    · exact q2
  have hx : x = -2 ∧ zfull (mcup D) (mhl D lw) (wkm D a) 21 = zfull (mcup D) (mhl D lw) (wkm D a) (k + 1).toNat := by
    rcases hx with q | q
    · exact q
    · omega
  obtain ⟨x2, hz⟩ := hx
  have r1 : E 152 1 = cRim (mcup D) := congrArg (fun q : Cv => q.2.1) h.2.2.2.1
  have e1 : m1 = (wr E 152 2 (cFill (zfill (mcup D) k)), rho n1 V) := by
    rw [e1, show mD (E, rho n1 V) 152 1 = cRim (mcup D) from r1]
    rfl
  subst e1
  have hk : MAc D W (wr E 152 2 (cFill (zfill (mcup D) k))) V (zfill (mcup D) k) := fill h
  have ck := COK_fill (k := k) hm.2.1 (by omega) (by omega)
  rw [show (k + 1).toNat = k.toNat + 1 by omega] at hz
  change _ = (if oSum (zOn (zfill (mcup D) (k.toNat : Nat)) (mhl D lw) (wkm D a) 1) = 0 then cFill (zfill (mcup D) (k.toNat : Nat)) else zfull (mcup D) (mhl D lw) (wkm D a) k.toNat) at hz
  rw [show ((k.toNat : Nat) : Int) = k by omega] at hz
  refine m_whole hi hm hk ck fun F U h2 ht h41 _ => ⟨fun c3 v1 e1 => ?_, fun c3 => ⟨rfl, fun v2 e2 v3 e3 => ?_⟩⟩
  · have c3 : ¬ oSum (zOn (zfill (mcup D) k) (mhl D lw) (wkm D a) 1) = 0 := c3
    rw [w32_id (by omega) (by omega)] at e1
    subst e1
    rw [if_neg c3] at hz
    exact ih (x, k + -1) _ ⟨F, U, _, rfl, h2, by dsimp only; omega, by dsimp only; omega, Or.inl ⟨x2, by dsimp only; rw [hz, show (k + -1 + 1).toNat = k.toNat by omega]⟩⟩ (by dsimp only; omega)
  · have c3 : oSum (zOn (zfill (mcup D) k) (mhl D lw) (wkm D a) 1) = 0 := c3
    rw [w32_id (by omega) (by omega)] at e3
    subst e3
    have e2 : v2 = cFill (zfill (mcup D) k) := by
      rw [e2]
      exact congrArg (fun q : Cv => q.2.2.1) h2.2.2.2.1
    rw [if_pos c3] at hz
    have := ck.2.2.2.2.1
    exact ih (v2, k + -1) _ ⟨F, U, _, rfl, h2, by dsimp only; omega, by dsimp only; omega, Or.inr ⟨by dsimp only; omega, by dsimp only; rw [e2, hz]⟩⟩ (by dsimp only; omega)
theorem C_mleastOf {what most a much : Int} (ha : 0 ≤ a ∧ a ≤ 3) (hm : MRun D lw) (h0 : MAc D W E V (mcup D)) (hk : what = 2 ∧ most = 9 ∨ what = 4 ∧ most = 100) : Cl (d + 131) 0 0 mX10_leastOf [vr 152, vi what, vi most, vi a, vi much] (E, rho n1 V) (KI (fun x m => ∃ (E' : DD) (U : Nat → Nat), m = (E', rho n1 U) ∧ MAc D W E' U (mcup D) ∧ x = zfirst (fun k => decide (oSum (zOn (zSet (mcup D) what k) (mhl D lw) (wkm D a) 1) ≤ much)) (most + 1).toNat 0)) := by
  have kb : (0 : Int) ≤ what ∧ what < ((7 : Nat) : Int) := ⟨by omega, by omega⟩
  refine Cl_of mb_X10_leastOf (Nat.le_of_ble_eq_true rfl) (sg_X10_leastOf_0 ⟨rfl, Or.inl rfl, kb, fun v1 ev => ?_⟩)
  have ev : v1 = cSet (mcup D) what := by
    rw [ev, ← h0.2.2.2.1]
    exact (cut_in (n := 7) (f := E 153) (by omega) (by omega)).symm
  subst ev
  have endS : ∀ (E : DD) (V : Nat → Nat) (v x : Int), MAc D W E V (zSet (mcup D) what v) → x = zfirst (fun k => decide (oSum (zOn (zSet (mcup D) what k) (mhl D lw) (wkm D a) 1) ≤ much)) (most + 1).toNat 0 → ∀ m1, m1 = sD (E, rho n1 V) 153 what (cSet (mcup D) what) → KI (fun x m => ∃ (E' : DD) (U : Nat → Nat), m = (E', rho n1 U) ∧ MAc D W E' U (mcup D) ∧ x = zfirst (fun k => decide (oSum (zOn (zSet (mcup D) what k) (mhl D lw) (wkm D a) 1) ≤ much)) (most + 1).toNat 0) (some (some (vi x))) m1 := by
    intro E V v x h hx m1 e1
    have e1 : m1 = (wr E 153 what (cSet (mcup D) what), rho n1 V) := e1
    subst e1
    exact ⟨_, rfl, _, V, rfl, (h.set (by omega) (by omega)).eq zSet_back, hx⟩
  have c0 : mcup D = zSet (mcup D) what (cSet (mcup D) what) := by
    have e : zu (cSet (mcup D)) what (cSet (mcup D) what) = cSet (mcup D) := by
      funext j
      unfold zu
      split
      · rename_i h
        rw [h]
      · rfl
    unfold zSet
    rw [e]
    rfl
  refine Wp.loop (σ := Int × Int) (fun σ => [some (vr 152), some (vi what), some (vi most), some (vi a), some (vi much), some (vi (cSet (mcup D) what)), some (vi σ.1), some (vi σ.2)])
    (fun σ μ => ∃ (E : DD) (V : Nat → Nat) (v : Int), μ = (E, rho n1 V) ∧ MAc D W E V (zSet (mcup D) what v) ∧ 0 ≤ σ.2 ∧ σ.2 ≤ most + 1 ∧ (σ.1 = -2 ∧ zfirst (fun k => decide (oSum (zOn (zSet (mcup D) what k) (mhl D lw) (wkm D a) 1) ≤ much)) (most + 1).toNat 0 = zfirst (fun k => decide (oSum (zOn (zSet (mcup D) what k) (mhl D lw) (wkm D a) 1) ≤ much)) (most + 1 - σ.2).toNat σ.2 ∨ 0 ≤ σ.1 ∧ σ.1 = zfirst (fun k => decide (oSum (zOn (zSet (mcup D) what k) (mhl D lw) (wkm D a) 1) ≤ much)) (most + 1).toNat 0))
    (fun σ => (most + 1 - σ.2).toNat) ?_ (-2, 0) _ ⟨E, V, _, rfl, h0.eq c0, by dsimp only; omega, by dsimp only; omega, Or.inl ⟨rfl, by dsimp only; rw [Int.sub_zero]⟩⟩
  rintro ⟨x, k⟩ μ ⟨E, V, v, rfl, h, k0, k1, hx⟩ ih
  dsimp only at k0 k1 hx ih ⊢
  refine sg_X10_leastOf_15 ⟨fun c => ⟨rfl, rfl, kb, endS E V v x h ?_⟩, fun c => ⟨fun c2 => ⟨rfl, rfl, kb, endS E V v x h ?_⟩, fun c2 => ⟨rfl, rfl, kb, fun m3 e3 => ?_⟩⟩⟩
  · rcases hx with ⟨q1, q2⟩ | ⟨-, q2⟩
    · rw [q2, q1, show (most + 1 - k).toNat = 0 by omega]
      rfl
    · exact q2
  · rcases hx with ⟨q1, q2⟩ | ⟨-, q2⟩
    · omega
    · exact q2
  have hx : x = -2 ∧ zfirst (fun k => decide (oSum (zOn (zSet (mcup D) what k) (mhl D lw) (wkm D a) 1) ≤ much)) (most + 1).toNat 0 = zfirst (fun k => decide (oSum (zOn (zSet (mcup D) what k) (mhl D lw) (wkm D a) 1) ≤ much)) (most + 1 - k).toNat k := by
    rcases hx with q | q
    · exact q
    · omega
  obtain ⟨x2, hz⟩ := hx
  have e3 : m3 = (wr E 153 what k, rho n1 V) := e3
  subst e3
  have hk2 : MAc D W (wr E 153 what k) V (zSet (mcup D) what k) := (h.set (by omega) (by omega)).eq zSet_zSet
  have hc2 : COK (zSet (mcup D) what k) := COK_set hm.2.1 (by omega)
  have e6 : lw (cSet (zSet (mcup D) what k) 6) = mhl D lw := by
    rw [zSet_ne (by omega)]
    rfl
  rw [show (most + 1 - k).toNat = (most + 1 - (k + 1)).toNat + 1 by omega] at hz
  change _ = (if decide _ = true then k else zfirst _ (most + 1 - (k + 1)).toNat (k + 1)) at hz
  refine m_whole ha hm hk2 hc2 fun F U h2 ht h41 _ => ⟨fun c3 v1 e1 => ?_, fun c3 v1 e1 => ?_⟩
  · rw [e6] at c3
    rw [w32_id (by omega) (by omega)] at e1
    subst e1
    rw [if_neg (fun z => by have := of_decide_eq_true z; omega)] at hz
    exact ih (x, k + 1) _ ⟨F, U, _, rfl, h2, by dsimp only; omega, by dsimp only; omega, Or.inl ⟨x2, hz⟩⟩ (by dsimp only; omega)
  · rw [e6] at c3
    rw [w32_id (by omega) (by omega)] at e1
    subst e1
    rw [if_pos (decide_eq_true (by omega))] at hz
    exact ih (k, k + 1) _ ⟨F, U, _, rfl, h2, by dsimp only; omega, by dsimp only; omega, Or.inr ⟨k0, hz.symm⟩⟩ (by dsimp only; omega)
theorem zfirst_ext {p q : Int → Bool} : ∀ {n : Nat} {i : Int}, (∀ k, i ≤ k → k < i + n → p k = q k) → zfirst p n i = zfirst q n i
  | 0, _, _ => rfl
  | n + 1, i, h => by
    show (if p i = true then i else zfirst p n (i + 1)) = (if q i = true then i else zfirst q n (i + 1))
    rw [h i (by omega) (by omega), zfirst_ext (fun k k0 k1 => h k (by omega) (by omega))]
theorem C_mlayers {a : Int} (hm : MRun D lw) : Cl (d + 132) 0 0 mX10_layers [vr 152, vi a] (D, rho n1 W) (KI (Was n1 D W (S_layers (mcup D) (mhl D lw) (wkm D) a))) := by
  refine Cl_of mb_X10_layers (Nat.le_of_ble_eq_true rfl) (sg_X10_layers_0 ⟨rfl, fun m1 e1 => ?_⟩)
  obtain ⟨E, hE⟩ : ∃ E, E = wr D 152 15 0 := ⟨_, rfl⟩
  have e1 : m1 = (E, rho n1 W) := by rw [hE]; exact e1
  subst e1
  have h0 : MAc D W E W (mcup D) := MAc.beg hE
  refine cB C_misWalk (fun hi => yE ⟨rfl, cI (C_mleastOf hi hm h0 (Or.inl ⟨rfl, rfl⟩)) ?_⟩) (fun hi => nE ⟨_, rfl, Was_no h0 (if_neg hi).symm rfl⟩)
  rintro x m ⟨F, U, rfl, h, hx⟩
  refine ⟨_, rfl, Was_no h ?_ rfl⟩
  rw [hx]
  refine Eq.trans ?_ (if_pos hi).symm
  refine zfirst_ext (fun k k0 k1 => ?_)
  have := (zOn_nn (c := zSet (mcup D) 2 k) (L := mhl D lw) (w := wkm D a) (seed := 1) (COK_set hm.2.1 (Or.inl ⟨rfl, k0, by have : ((9 + 1 : Int).toNat : Int) = 10 := rfl; omega⟩)) (hm.2.2.2.2 a hi.1 hi.2).2).1
  exact decide_eq_decide.mpr ⟨fun z => by omega, fun z => by omega⟩
theorem C_mlid {a much : Int} (hm : MRun D lw) : Cl (d + 132) 0 0 mX10_lid [vr 152, vi a, vi much] (D, rho n1 W) (KI (Was n1 D W (S_lid (mcup D) (mhl D lw) (wkm D) a much))) := by
  refine Cl_of mb_X10_lid (Nat.le_of_ble_eq_true rfl) (sg_X10_lid_0 ⟨rfl, fun m1 e1 => ?_⟩)
  obtain ⟨E, hE⟩ : ∃ E, E = wr D 152 15 0 := ⟨_, rfl⟩
  have e1 : m1 = (E, rho n1 W) := by rw [hE]; exact e1
  subst e1
  have h0 : MAc D W E W (mcup D) := MAc.beg hE
  refine cB C_misWalk (fun hi => yE (cB C_in (fun hy => yE ⟨rfl, cI (C_mleastOf hi hm h0 (Or.inr ⟨rfl, rfl⟩)) ?_⟩) (fun hy => nE ⟨_, rfl, Was_no h0 (if_neg (fun q => hy q.2)).symm rfl⟩))) (fun hi => nE ⟨_, rfl, Was_no h0 (if_neg (fun q => hi q.1)).symm rfl⟩)
  rintro x m ⟨F, U, rfl, h, hx⟩
  refine ⟨_, rfl, Was_no h ?_ rfl⟩
  rw [hx]
  exact (if_pos ⟨hi, hy⟩).symm
end MAS
