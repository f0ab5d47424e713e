/-! ===== the model is asked, 2: the least of many ===== -/
def Zst (f ix : Nat → Int) (n : Nat) (fd ls : Int) : Prop := (n = 0 ∧ fd = -1 ∧ ls = 0) ∨ (1 ≤ n ∧ fd ≠ -1 ∧ (fd, ls) = zmn f ix n)
section ZST
variable {f ix : Nat → Int} {n : Nat} {fd ls : Int}
theorem Zst.first {x v : Int} (h : Zst f ix n fd ls) (e : fd = -1) (hx : f n = x) (hv : ix n = v) (hb : x < 2147483647) (hi : v ≠ -1) : Zst f ix (n + 1) v x := by
  subst hx hv
  rcases h with ⟨h1, -, -⟩ | ⟨-, h2, -⟩
  · subst h1
    refine Or.inr ⟨by omega, hi, ?_⟩
    show _ = if f 0 < 2147483647 then (ix 0, f 0) else _
    rw [if_pos hb]
  · exact absurd e h2
theorem Zst.less {x v : Int} (h : Zst f ix n fd ls) (e : ¬ fd = -1) (hx : f n = x) (hv : ix n = v) (hl : x < ls) (hi : v ≠ -1) : Zst f ix (n + 1) v x := by
  subst hx hv
  rcases h with ⟨-, h1, -⟩ | ⟨-, -, h3⟩
  · exact absurd h1 e
  · refine Or.inr ⟨by omega, hi, ?_⟩
    show _ = if f n < (zmn f ix n).2 then (ix n, f n) else _
    rw [← h3, if_pos hl]
theorem Zst.keep {x : Int} (h : Zst f ix n fd ls) (e : ¬ fd = -1) (hx : f n = x) (hl : ¬ x < ls) : Zst f ix (n + 1) fd ls := by
  subst hx
  rcases h with ⟨-, h1, -⟩ | ⟨-, h2, h3⟩
  · exact absurd h1 e
  · refine Or.inr ⟨by omega, h2, ?_⟩
    show _ = if f n < (zmn f ix n).2 then (ix n, f n) else _
    rw [← h3, if_neg hl]
theorem Zst.is (h : Zst f ix n fd ls) (hn : 1 ≤ n) : fd = (zmn f ix n).1 ∧ ls = (zmn f ix n).2 := by
  rcases h with ⟨h1, -, -⟩ | ⟨-, -, h3⟩
  · omega
  · rw [← h3]
    exact ⟨rfl, rfl⟩
end ZST
theorem HOK.high {c : Cv} {r : Rv} (hc : COK c) (h : HOK r.1) : zhigh c r ≤ 20000 := by
  obtain ⟨l0, l1, -⟩ := hc
  have a := (h.at (j := 0) (by decide) (by decide)).2
  have b := (h.at (j := cLast c) (by omega) (by omega)).2
  unfold zhigh
  omega
theorem zrun_high {cap : Nat} {c : Cv} {L : Option (List Int)} {w : Wv} {t : Int → Int} (hc : COK c) : ∀ {n : Nat} {i : Int} {z : Zr}, ZOK z → zSum z + 80000 * (n : Int) < 2000000000 → sTick (zS z) + n < 2147483647 → zHigh z ≤ 20000 → zHigh (zrun cap c L w t n i z) ≤ 20000
  | 0, _, _, _, _, _, h => h
  | n + 1, i, z, hz, hb, ht, h => by
    have t0 := hz.1.2.2
    obtain ⟨a0, a1, a2, a3⟩ := zcarry_phys (L := L) (w := w) (i := i) (t := t i) hc hz.1 (by omega)
    obtain ⟨b0, b1⟩ := znote_phys (cap := cap) (c := c) hz.2 (by omega) a0 a1 a2
    have b2 : sTick (zS (znote cap c (zcarry c L w i (t i) (zS z)) z)) = sTick (zS z) + 1 := a3
    rw [zrun_s]
    refine zrun_high hc b0 (by omega) (by omega) ?_
    have p := HOK.high hc a0.1
    have q := HOK.high hc a0.2.1
    show max (zHigh z) (max (zhigh c (sAl (zcarry c L w i (t i) (zS z)).2)) (zhigh c (sAc (zcarry c L w i (t i) (zS z)).2))) ≤ 20000
    omega
theorem zOn_high {c : Cv} {L : Option (List Int)} {w : Wv} {seed : Int} (hc : COK c) (hw : wTicks w ≤ 1000) : oHigh (zOn c L w seed) ≤ 20000 :=
  zrun_high hc (zbeg0_ok hc) (by show (0 : Int) + _ < _; omega) (by show (0 : Int) + _ < _; omega) (by show (0 : Int) ≤ _; decide)
theorem zHole_back {c : Cv} {k v : Int} : zHole (zHole c k v) k (cHole c k) = c := by
  have e : zu (zu (cHole c) k v) k (cHole c k) = cHole c := by
    funext j
    unfold zu
    split
    · rename_i h
      rw [h]
    · rfl
  unfold zHole
  show (_, _, _, _, zu (zu (cHole c) k v) k (cHole c k)) = c
  rw [e]
  rfl
theorem zHole_zHole {c : Cv} {k v v' : Int} : zHole (zHole c k v) k v' = zHole c k v' := by
  have e : zu (zu (cHole c) k v) k v' = zu (cHole c) k v' := by
    funext j
    unfold zu
    split <;> rfl
  unfold zHole
  show (_, _, _, _, zu (zu (cHole c) k v) k v') = (_, _, _, _, zu (cHole c) k v')
  rw [e]
  rfl
theorem zHole_self {c : Cv} {k : Int} : zHole c k (cHole c k) = c := by
  have e : zu (cHole c) k (cHole c k) = cHole c := by
    funext j
    unfold zu
    split
    · rename_i h
      rw [h]
    · rfl
  unfold zHole
  rw [e]
  rfl
section MA2
variable {d n1 : Nat} {W V : Nat → Nat} {D E : DD} {lw : Int → Option (List Int)} {c : Cv}
/-- one number told, and the end -/
theorem m_tell1 {bc bs : Nat} {S : Int × Option (List Int)} {x y : Int} {P : Nat → Nat → Mem → Prop} (h : MAc D W E V (mcup D)) (hx : x = S.1) (hs : S.2 = some [y]) (k : ∀ m, Was n1 D W S x m → P 0 0 m) :
    ∃ (mc1 ms1 : Nat) (K1 : Mem → Prop), Cl d mc1 ms1 mX10_tell [vr 152, vl y] (wr E 152 14 0, rho n1 V) (KV K1) ∧ mc1 ≤ bc ∧ ms1 ≤ bs ∧ (∀ m1, K1 m1 → P mc1 ms1 m1) := by
  refine cV (C_mtl (MTl.beg (E := E)) (by decide)) ?_
  rintro m ⟨G, rfl, g⟩
  exact k _ (Was_tell h g hx hs)
theorem C_mbest {a gap : Int} (hm : MRun D lw) : Cl (d + 131) 0 0 mX10_best [vr 152, vi a, vi gap] (D, rho n1 W) (KI (Was n1 D W (S_best (mcup D) (mhl D lw) (wkm D) a gap))) := by
  refine Cl_of mb_X10_best (Nat.le_of_ble_eq_true rfl) (sg_X10_best_0 ⟨rfl, fun m1 e1 => ?_⟩)
  obtain ⟨E, hE⟩ : ∃ E, E = wr D 152 15 0 := ⟨_, rfl⟩
  have e1 : m1 = (E, rho n1 W) := by rw [hE]; exact e1
  subst e1
  have h0 : MAc D W E W (mcup D) := MAc.beg hE
  have mbE := (h0.mr hm hm.2.1).1
  have cE : mcup E = mcup D := h0.2.2.2.1
  refine cB C_misWalk (fun hi => yE ⟨rfl, cB (C_misGap (D := E) mbE.1 mbE.2) (fun hg => yN ⟨rfl, Or.inl rfl, ?_⟩) (fun hg => nN ⟨_, rfl, Was_no h0 (by unfold S_best; rw [if_neg (fun q => hg (by rw [cE]; exact q.2))]) (by unfold S_best; rw [if_neg (fun q => hg (by rw [cE]; exact q.2))])⟩)⟩) (fun hi => nE ⟨_, rfl, Was_no h0 (by unfold S_best; rw [if_neg (fun q => hi q.1)]) (by unfold S_best; rw [if_neg (fun q => hi q.1)])⟩)
  rw [cE] at hg
  have g19 : gap < 20 := by have := hm.2.1.2.1; omega
  have kb : (0 : Int) ≤ gap ∧ gap < ((20 : Nat) : Int) := ⟨hg.1, by omega⟩
  have hS : S_best (mcup D) (mhl D lw) (wkm D) a gap = ((zbest (mcup D) (mhl D lw) (wkm D a) gap).1, some [(zbest (mcup D) (mhl D lw) (wkm D a) gap).2]) := if_pos ⟨hi, hg⟩
  unfold zbest at hS
  refine ⟨kb, fun v1 ev => ?_⟩
  have ev : v1 = cHole (mcup D) gap := by
    rw [ev, ← cE]
    exact (cut_in (n := 20) (f := E 154) (by omega) (by omega)).symm
  subst ev
  refine Wp.loop (σ := (Int × Int) × Int) (fun σ => [some (vr 152), some (vi a), some (vi gap), some (vi (cHole (mcup D) gap)), some (vi σ.1.1), some (vi σ.1.2), some (vi σ.2)])
    (fun σ μ => ∃ (E : DD) (V : Nat → Nat) (v : Int), μ = (E, rho n1 V) ∧ MAc D W E V (zHole (mcup D) gap v) ∧ -1 ≤ σ.2 ∧ σ.2 ≤ 100 ∧ Zst (fun k => oHigh (zOn (zHole (mcup D) gap (100 - k)) (mhl D lw) (wkm D a) 1)) (fun k => 100 - k) (100 - σ.2).toNat σ.1.1 σ.1.2)
    (fun σ => (σ.2 + 1).toNat) ?_ ((-1, 0), 100) _ ⟨E, W, _, rfl, h0.eq zHole_self.symm, by decide, by decide, Or.inl ⟨rfl, rfl, rfl⟩⟩
  rintro ⟨⟨fd, ls⟩, k⟩ μ ⟨E, V, v, rfl, h, k0, k1, hz⟩ ih
  dsimp only at k0 k1 hz ih ⊢
  refine sg_X10_best_39 ⟨fun cc => ⟨rfl, rfl, kb, fun m1 e1 m2 e2 => ?_⟩, fun cc => ⟨rfl, rfl, kb, fun m4 e4 => ?_⟩⟩
  · have e1 : m1 = (wr E 154 gap (cHole (mcup D) gap), rho n1 V) := e1
    subst e1
    have h1 : MAc D W (wr E 154 gap (cHole (mcup D) gap)) V (mcup D) := (h.hole hg.1 g19).eq zHole_back
    have e2 : m2 = (wr (wr E 154 gap (cHole (mcup D) gap)) 152 14 0, rho n1 V) := e2
    subst e2
    obtain ⟨q1, q2⟩ := hz.is (by omega)
    rw [show (100 - k).toNat = 101 by omega] at q1 q2
    refine m_tell1 h1 (S := S_best (mcup D) (mhl D lw) (wkm D) a gap) (x := fd) ?_ ?_ (fun m hm' => ⟨_, rfl, hm'⟩)
    · rw [hS, ← q1]
    · rw [hS, ← q2]
  · have e4 : m4 = (wr E 154 gap k, rho n1 V) := e4
    subst e4
    have h1 : MAc D W (wr E 154 gap k) V (zHole (mcup D) gap k) := (h.hole hg.1 g19).eq zHole_zHole
    have hc1 : COK (zHole (mcup D) gap k) := COK_hole hm.2.1 (by omega) (by omega)
    refine m_whole hi hm h1 hc1 fun F U h2 ht h41 _ => ?_
    have e42 : mD (F, rho n1 U) 152 42 = oHigh (zOn (zHole (mcup D) gap k) (mhl D lw) (wkm D a) 1) := ht.2.1
    have ek : (100 : Int) - ((100 - k).toNat : Nat) = k := by omega
    have ef : oHigh (zOn (zHole (mcup D) gap (100 - ((100 - k).toNat : Nat))) (mhl D lw) (wkm D a) 1) = oHigh (zOn (zHole (mcup D) gap k) (mhl D lw) (wkm D a) 1) := by rw [ek]
    have hb := zOn_high (c := zHole (mcup D) gap k) (L := mhl D lw) (w := wkm D a) (seed := 1) hc1 (hm.2.2.2.2 a hi.1 hi.2).2
    have wk : w32 (k + -1) = k + -1 := w32_id (by omega) (by omega)
    have nx : (100 - (k + -1)).toNat = (100 - k).toNat + 1 := by omega
    refine ⟨fun c1 => ⟨rfl, fun v1 e1 v2 e2 => ?_⟩, fun c1 => ⟨rfl, fun c2 v3 e3 v4 e4 => ?_, fun c2 v5 e5 => ?_⟩⟩
    · rw [e42] at e1
      rw [wk] at e2
      subst e1
      subst e2
      refine ih ((k, _), k + -1) _ ⟨F, U, _, rfl, h2, by dsimp only; omega, by dsimp only; omega, ?_⟩ (by dsimp only; omega)
      dsimp only
      rw [nx]
      exact hz.first (x := oHigh (zOn (zHole (mcup D) gap k) (mhl D lw) (wkm D a) 1)) c1 ef ek (by omega) (by omega)
    · rw [e42] at e3 c2
      rw [wk] at e4
      subst e3
      subst e4
      refine ih ((k, _), k + -1) _ ⟨F, U, _, rfl, h2, by dsimp only; omega, by dsimp only; omega, ?_⟩ (by dsimp only; omega)
      dsimp only
      rw [nx]
      exact hz.less c1 ef ek c2 (by omega)
    · rw [e42] at c2
      rw [wk] at e5
      subst e5
      refine ih ((fd, ls), k + -1) _ ⟨F, U, _, rfl, h2, by dsimp only; omega, by dsimp only; omega, ?_⟩ (by dsimp only; omega)
      dsimp only
      rw [nx]
      exact hz.keep c1 ef c2
theorem C_mpause {a t : Int} (hm : MRun D lw) : Cl (d + 131) 0 0 mX10_pause [vr 152, vi a, vi t] (D, rho n1 W) (KI (Was n1 D W (S_pause (mcup D) (mhl D lw) (wkm D) a t))) := by
  refine Cl_of mb_X10_pause (Nat.le_of_ble_eq_true rfl) (sg_X10_pause_0 ⟨rfl, fun m1 e1 => ?_⟩)
  obtain ⟨E, hE⟩ : ∃ E, E = wr D 152 15 0 := ⟨_, rfl⟩
  have e1 : m1 = (E, rho n1 W) := by rw [hE]; exact e1
  subst e1
  have h0 : MAc D W E W (mcup D) := MAc.beg hE
  refine cB C_misWalk (fun hi => yE (cB C_in (fun ht => yN ?_) (fun ht => nN ⟨_, rfl, Was_no h0 (by unfold S_pause; rw [if_neg (fun q => ht q.2)]) (by unfold S_pause; rw [if_neg (fun q => ht q.2)])⟩))) (fun hi => nE ⟨_, rfl, Was_no h0 (by unfold S_pause; rw [if_neg (fun q => hi q.1)]) (by unfold S_pause; rw [if_neg (fun q => hi q.1)])⟩)
  have hS : S_pause (mcup D) (mhl D lw) (wkm D) a t = ((zpauses (mcup D) (mhl D lw) (wkm D a) t).1, some [(zpauses (mcup D) (mhl D lw) (wkm D a) t).2]) := if_pos ⟨hi, ht⟩
  unfold zpauses at hS
  have wt : wTicks (wkm D a) ≤ 1000 := (hm.2.2.2.2 a hi.1 hi.2).2
  have bnd' : ∀ k : Nat, k ≤ 40 → oSum (zPause (mcup D) (mhl D lw) (wkm D a) t k) < 2147483647 := fun k hk => by
    have z0 := zbeg0_ok (seed := 1) hm.2.1
    obtain ⟨a0, a1, a2, a3⟩ := zrun_phys (cap := 1040) (L := mhl D lw) (w := wkm D a) (t := fun _ => 0) hm.2.1 (n := (min t (wTicks (wkm D a))).toNat) (i := 0) z0 (by show (0 : Int) + _ < _; omega) (by show (0 : Int) + _ < _; omega)
    have s0 : zSum (zbeg0 (mcup D) 1) = 0 := rfl
    have k0 : sTick (zS (zbeg0 (mcup D) 1)) = 0 := rfl
    obtain ⟨b0, b1, b2⟩ := zstill_phys (cap := 1040) hm.2.1 a0 (by omega) (by omega) (n := k) hk
    obtain ⟨e0, e1, e2, e3⟩ := zrun_phys (cap := 1040) (L := mhl D lw) (w := wkm D a) (t := fun _ => 0) hm.2.1 (n := (wTicks (wkm D a) - t).toNat) (i := t) b0 (by omega) (by omega)
    show zSum _ < _
    omega
  refine Wp.loop (σ := (Int × Int) × Int) (fun σ => [some (vr 152), some (vi a), some (vi t), some (vi σ.1.1), some (vi σ.1.2), some (vi σ.2), none])
    (fun σ μ => ∃ (E : DD) (V : Nat → Nat), μ = (E, rho n1 V) ∧ MAc D W E V (mcup D) ∧ 0 ≤ σ.2 ∧ σ.2 ≤ 41 ∧ Zst (fun k => oSum (zPause (mcup D) (mhl D lw) (wkm D a) t k)) (fun k => k) σ.2.toNat σ.1.1 σ.1.2)
    (fun σ => (41 - σ.2).toNat) ?_ ((-1, 0), 0) _ ⟨E, W, rfl, h0, by decide, by decide, Or.inl ⟨rfl, rfl, rfl⟩⟩
  rintro ⟨⟨fd, ls⟩, k⟩ μ ⟨E, V, rfl, h, k0, k1, hz⟩ ih
  dsimp only at k0 k1 hz ih ⊢
  refine sg_X10_pause_33 ⟨fun cc => ⟨rfl, fun m1 e1 => ?_⟩, fun cc => ⟨rfl, ?_⟩⟩
  · have e1 : m1 = (wr E 152 14 0, rho n1 V) := e1
    subst e1
    obtain ⟨q1, q2⟩ := hz.is (by omega)
    rw [show k.toNat = 41 by omega] at q1 q2
    refine m_tell1 h (S := S_pause (mcup D) (mhl D lw) (wkm D) a t) (x := fd) ?_ ?_ (fun m hm' => ⟨_, rfl, hm'⟩)
    · rw [hS, ← q1]
    · rw [hS, ← q2]
  · refine cI (C_mwithPause (D := E) (lw := lw) (a := a) (at' := t) (k := k) hi (h.mr hm hm.2.1) ht.1 ht.2 k0 (by omega)) ?_
    rintro x m ⟨F, U, rfl, hU, f, hs, hx⟩
    have h2 := h.run hU f hs
    rw [h.wk a, h.hl, h.2.2.2.1] at hx
    have hx : x = oSum (zPause (mcup D) (mhl D lw) (wkm D a) t k.toNat) := hx
    have ek : ((k.toNat : Nat) : Int) = k := by omega
    have hb := bnd' k.toNat (by omega)
    have wk : w32 (k + 1) = k + 1 := w32_id (by omega) (by omega)
    have nx : (k + 1).toNat = k.toNat + 1 := by omega
    refine ⟨fun c1 v1 e1 => ?_, fun c1 => ⟨fun c2 v2 e2 => ?_, fun c2 v3 e3 => ?_⟩⟩
    · rw [wk] at e1
      subst e1
      refine ih ((k, x), k + 1) _ ⟨F, U, rfl, h2, by dsimp only; omega, by dsimp only; omega, ?_⟩ (by dsimp only; omega)
      dsimp only
      rw [nx]
      exact hz.first c1 hx.symm ek (by omega) (by omega)
    · rw [wk] at e2
      subst e2
      refine ih ((k, x), k + 1) _ ⟨F, U, rfl, h2, by dsimp only; omega, by dsimp only; omega, ?_⟩ (by dsimp only; omega)
      dsimp only
      rw [nx]
      exact hz.less c1 hx.symm ek c2 (by omega)
    · rw [wk] at e3
      subst e3
      refine ih ((fd, ls), k + 1) _ ⟨F, U, rfl, h2, by dsimp only; omega, by dsimp only; omega, ?_⟩ (by dsimp only; omega)
      dsimp only
      rw [nx]
      exact hz.keep c1 hx.symm c2
theorem C_mdoor {a : Int} (hm : MRun D lw) : Cl (d + 131) 0 0 mX10_door [vr 152, vi a] (D, rho n1 W) (KI (Was n1 D W (S_door (mcup D) (mhl D lw) (wkm D) a))) := by
  refine Cl_of mb_X10_door (Nat.le_of_ble_eq_true rfl) (sg_X10_door_0 ⟨rfl, fun m1 e1 => ?_⟩)
  obtain ⟨E, hE⟩ : ∃ E, E = wr D 152 15 0 := ⟨_, rfl⟩
  have e1 : m1 = (E, rho n1 W) := by rw [hE]; exact e1
  subst e1
  have h0 : MAc D W E W (mcup D) := MAc.beg hE
  refine cB C_misWalk (fun hi => yN ⟨rfl, Or.inl rfl, bnd (N := 4) rfl hi.1 (by omega), fun v1 ev => ?_⟩) (fun hi => nN ⟨_, rfl, Was_no h0 (by unfold S_door; rw [if_neg hi]) (by unfold S_door; rw [if_neg hi])⟩)
  have hS : S_door (mcup D) (mhl D lw) (wkm D) a = ((zdoor (mcup D) (mhl D lw) (wkm D a)).1, some [(zdoor (mcup D) (mhl D lw) (wkm D a)).2]) := if_pos hi
  obtain ⟨wt0, wt⟩ := hm.2.2.2.2 a hi.1 hi.2
  obtain ⟨N, hN⟩ : ∃ N, N = D 161 a := ⟨_, rfl⟩
  have hwt : wTicks (wkm D a) = N := hN.symm
  rw [← hN] at wt0 wt
  have ev : v1 = N := by
    rw [ev, hN]
    exact h0.2.1 161 a (by unfold maF; omega)
  subst ev
  unfold zdoor at hS
  rw [hwt] at hS
  have bnd' : ∀ k : Nat, oSum (zTurn (mcup D) (mhl D lw) (wkm D a) (min (10 * k) v1)) < 2147483647 := fun k => by
    have := (zOut_bnd (c := mcup D) (L := mhl D lw) (w := wkm D a) (t := fun i => bi (min (10 * (k : Int)) v1 ≤ i)) (n := (wTicks (wkm D a)).toNat) (i := 0) (seed := 1) hm.2.1 (by omega)).2
    show oSum (zOut _ _ _ _ _ _ _) < _
    omega
  refine Wp.loop (σ := (Int × Int) × Nat) (fun σ => [some (vr 152), some (vi a), some (vi v1), some (vi σ.1.1), some (vi σ.1.2), some (vi (10 * (σ.2 : Int))), none, none])
    (fun σ μ => ∃ (E : DD) (V : Nat → Nat), μ = (E, rho n1 V) ∧ MAc D W E V (mcup D) ∧ 10 * (σ.2 : Int) < v1 + 20 ∧ Zst (fun k => oSum (zTurn (mcup D) (mhl D lw) (wkm D a) (min (10 * k) v1))) (fun k => min (10 * k) v1) σ.2 σ.1.1 σ.1.2)
    (fun σ => (v1 + 20 - 10 * (σ.2 : Int)).toNat) ?_ ((-1, 0), 0) _ ⟨E, W, rfl, h0, by dsimp only; omega, Or.inl ⟨rfl, rfl, rfl⟩⟩
  rintro ⟨⟨fd, ls⟩, k⟩ μ ⟨E, V, rfl, h, k1, hz⟩ ih
  dsimp only at k1 hz ih ⊢
  have w10 : w32 (v1 + 10) = v1 + 10 := w32_id (by omega) (by omega)
  refine sg_X10_door_29 ⟨fun cc => ⟨rfl, fun m1 e1 => ?_⟩, fun cc => cP C_min ⟨rfl, ?_⟩⟩
  · rw [w10] at cc
    have e1 : m1 = (wr E 152 14 0, rho n1 V) := e1
    subst e1
    obtain ⟨q1, q2⟩ := hz.is (by omega)
    rw [show k = ((v1 + 19) / 10).toNat by omega] at q1 q2
    refine m_tell1 h (S := S_door (mcup D) (mhl D lw) (wkm D) a) (x := fd) ?_ ?_ (fun m hm' => ⟨_, rfl, hm'⟩)
    · rw [hS, ← q1]
    · rw [hS, ← q2]
  · rw [w10] at cc
    refine cI (C_mwithTurn (D := E) (lw := lw) (a := a) (t := min (10 * k) v1) hi (h.mr hm hm.2.1)) ?_
    rintro x m ⟨F, U, rfl, hU, f, hs, hx⟩
    have h2 := h.run hU f hs
    rw [h.wk a, h.hl, h.2.2.2.1] at hx
    have hx : x = oSum (zTurn (mcup D) (mhl D lw) (wkm D a) (min (10 * k) v1)) := hx
    have hb := bnd' k
    have wk : w32 (10 * (k : Int) + 10) = 10 * ((k + 1 : Nat) : Int) := by rw [w32_id (by omega) (by omega)]; omega
    refine ⟨fun c1 v1 e1 => ?_, fun c1 => ⟨fun c2 v2 e2 => ?_, fun c2 v3 e3 => ?_⟩⟩
    · rw [wk] at e1
      subst e1
      refine ih ((_, x), k + 1) _ ⟨F, U, rfl, h2, by dsimp only; omega, ?_⟩ (by dsimp only; omega)
      dsimp only
      exact hz.first c1 hx.symm rfl (by omega) (by omega)
    · rw [wk] at e2
      subst e2
      refine ih ((_, x), k + 1) _ ⟨F, U, rfl, h2, by dsimp only; omega, ?_⟩ (by dsimp only; omega)
      dsimp only
      exact hz.less c1 hx.symm rfl c2 (by omega)
    · rw [wk] at e3
      subst e3
      refine ih ((fd, ls), k + 1) _ ⟨F, U, rfl, h2, by dsimp only; omega, ?_⟩ (by dsimp only; omega)
      dsimp only
      exact hz.keep c1 hx.symm c2
end MA2
