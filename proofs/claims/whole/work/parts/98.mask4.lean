/-! ===== the model is asked, 4: odds, helps, form ===== -/
theorem bOr_0 {x : Int} (h : w32 x = x) : bOr x 0 = x := by
  unfold bOr
  rw [show Int32.ofInt 0 = 0 from rfl, Int32.or_zero, i_tw, h]
theorem w32_i (a : Int32) : w32 a.toInt = a.toInt := r32_w (i_r a)
theorem zbits_w {f : Nat → Int} {b : Int} : ∀ n : Nat, w32 (zbits f b n) = zbits f b n
  | 0 => rfl
  | n + 1 => by
    show w32 (if f n < b then bOr (zbits f b n) (bShl 1 n) else zbits f b n) = if f n < b then bOr (zbits f b n) (bShl 1 n) else zbits f b n
    split
    · exact w32_i _
    · exact zbits_w n
/-- THE HAND's number is no part of how a cup moves -/
theorem zcarry_hand {c : Cv} {L : Option (List Int)} {w : Wv} {i t v : Int} {s : Sv} : zcarry (zSet c 6 v) L w i t s = zcarry c L w i t s := rfl
theorem znote_hand {cap : Nat} {c : Cv} {v : Int} {x : Int × Sv} {z : Zr} : znote cap (zSet c 6 v) x z = znote cap c x z := rfl
theorem zrun_hand {cap : Nat} {c : Cv} {L : Option (List Int)} {w : Wv} {t : Int → Int} {v : Int} : ∀ {n : Nat} {i : Int} {z : Zr}, zrun cap (zSet c 6 v) L w t n i z = zrun cap c L w t n i z
  | 0, _, _ => rfl
  | n + 1, i, z => by
    rw [zrun_s, zrun_s, zcarry_hand, znote_hand, zrun_hand]
theorem zOn_hand {c : Cv} {L : Option (List Int)} {w : Wv} {v s : Int} : zOn (zSet c 6 v) L w s = zOn c L w s := by
  show zout (zrun 1040 (zSet c 6 v) L w (fun _ => 0) (wTicks w).toNat 0 (zbeg0 c s)) = _
  rw [zrun_hand]
  rfl
theorem zSet_comm {c : Cv} {i j u v : Int} (h : i ≠ j) : zSet (zSet c i u) j v = zSet (zSet c j v) i u := by
  have e : zu (zu (cSet c) i u) j v = zu (zu (cSet c) j v) i u := by
    funext k
    unfold zu
    by_cases h1 : k = j
    · rw [if_pos h1, if_neg (fun z => h (z.symm.trans h1)), if_pos h1]
    · rw [if_neg h1, if_neg h1]
  show (_, _, _, zu (zu (cSet c) i u) j v, _) = (_, _, _, zu (zu (cSet c) j v) i u, _)
  rw [e]
  rfl
theorem zSet_self {c : Cv} {k : Int} : zSet c k (cSet c k) = c := (zSet_zSet (v := 0)).symm.trans zSet_back
def Zs2 (f : Nat → Int) (n : Nat) (ls ix : Int) : Prop := (n = 0 ∧ ls = -1 ∧ ix = 0) ∨ (1 ≤ n ∧ ls ≠ -1 ∧ (ix, ls) = zmn f (fun k => (k : Int)) n)
section ZS2
variable {f : Nat → Int} {n : Nat} {ls ix x : Int}
theorem Zs2.first (h : Zs2 f n ls ix) (e : ls = -1) (hx : f n = x) (hb : x < 2147483647) (h0 : 0 ≤ x) : Zs2 f (n + 1) x n := by
  subst hx
  rcases h with ⟨h1, -, -⟩ | ⟨-, h2, -⟩
  · subst h1
    refine Or.inr ⟨by omega, by omega, ?_⟩
    show _ = if f 0 < 2147483647 then (((0 : Nat) : Int), f 0) else _
    rw [if_pos hb]
  · exact absurd e h2
theorem Zs2.less (h : Zs2 f n ls ix) (e : ¬ ls = -1) (hx : f n = x) (hl : x < ls) (h0 : 0 ≤ x) : Zs2 f (n + 1) x n := by
  subst hx
  rcases h with ⟨-, h1, -⟩ | ⟨-, -, h3⟩
  · exact absurd h1 e
  · refine Or.inr ⟨by omega, by omega, ?_⟩
    show _ = if f n < (zmn f (fun k => (k : Int)) n).2 then ((n : Int), f n) else _
    rw [← h3, if_pos hl]
theorem Zs2.keep (h : Zs2 f n ls ix) (e : ¬ ls = -1) (hx : f n = x) (hl : ¬ x < ls) : Zs2 f (n + 1) ls ix := by
  subst hx
  rcases h with ⟨-, h1, -⟩ | ⟨-, h2, h3⟩
  · exact absurd h1 e
  · refine Or.inr ⟨by omega, h2, ?_⟩
    show _ = if f n < (zmn f (fun k => (k : Int)) n).2 then ((n : Int), f n) else _
    rw [← h3, if_neg hl]
theorem Zs2.is (h : Zs2 f n ls ix) (hn : 1 ≤ n) : ix = (zmn f (fun k => (k : Int)) n).1 ∧ ls = (zmn f (fun k => (k : Int)) n).2 := by
  rcases h with ⟨h1, -, -⟩ | ⟨-, -, h3⟩
  · omega
  · rw [← h3]
    exact ⟨rfl, rfl⟩
end ZS2
section MA4
variable {d n1 : Nat} {W V : Nat → Nat} {D E : DD} {lw : Int → Option (List Int)} {c : Cv}
theorem C_mhelps {a l : Int} (hm : MRun D lw) : Cl (d + 131) 0 0 mX10_helps [vr 152, vi a, vi l] (D, rho n1 W) (KI (Was n1 D W (S_helps (mcup D) lw (wkm D) a l))) := by
  refine Cl_of mb_X10_helps (Nat.le_of_ble_eq_true rfl) (sg_X10_helps_0 ⟨rfl, fun m1 e1 => ?_⟩)
  obtain ⟨E, hE⟩ : ∃ E, E = wr D 152 15 0 := ⟨_, rfl⟩
  have e1 : m1 = (E, rho n1 W) := by rw [hE]; exact e1
  subst e1
  have h0 : MAc D W E W (mcup D) := MAc.beg hE
  have hLE := (h0.mr hm hm.2.1).2.2.2.1
  have no : ¬ ((0 ≤ a ∧ a ≤ 3) ∧ (lw l).isSome = true) → Was n1 D W (S_helps (mcup D) lw (wkm D) a l) (-1) (E, rho n1 W) := fun h => Was_no h0 (by unfold S_helps; rw [if_neg h]) (by unfold S_helps; rw [if_neg h])
  refine cB C_misWalk (fun hi => yE ⟨rfl, cB (C_misLaw (D := E)) (fun hl => yN ?_) (fun hl => nN ⟨_, rfl, no (fun q => hl (hLE.is.mp q.2))⟩)⟩) (fun hi => nE ⟨_, rfl, no (fun q => hi q.1)⟩)
  have hsome : (lw l).isSome = true := hLE.is.mpr hl
  obtain ⟨o1, ho1⟩ : ∃ o1, o1 = oSum (zOn (mcup D) none (wkm D a) 1) := ⟨_, rfl⟩
  have hS : S_helps (mcup D) lw (wkm D) a l = (zbits (zhelp (mcup D) (lw l) (wkm D a)) o1 21, some [o1, (zmn (zhelp (mcup D) (lw l) (wkm D a)) (fun k => k) 21).2, (zmn (zhelp (mcup D) (lw l) (wkm D a)) (fun k => k) 21).1]) := by
    rw [ho1]
    exact if_pos ⟨hi, hsome⟩
  generalize S_helps (mcup D) lw (wkm D) a l = S at hS ⊢
  clear no
  refine ⟨rfl, Or.inl rfl, bnd (N := 7) rfl (by decide) (by decide), fun v1 ev1 => ⟨bnd (N := 7) rfl (by decide) (by decide), fun v2 ev2 => ⟨rfl, bnd (N := 7) rfl (by decide) (by decide), fun m4 e4 => ?_⟩⟩⟩
  have ev1 : v1 = cSet (mcup D) 6 := by
    rw [ev1, ← h0.2.2.2.1]
    exact (cut_in (n := 7) (f := E 153) (k := 6) (by decide) (by decide)).symm
  have ev2 : v2 = cSet (mcup D) 5 := by
    rw [ev2, ← h0.2.2.2.1]
    exact (cut_in (n := 7) (f := E 153) (k := 5) (by decide) (by decide)).symm
  subst ev1 ev2
  have e4 : m4 = (wr E 153 6 3, rho n1 W) := e4
  subst e4
  have h1 := h0.set (k := 6) (v := 3) (by decide) (by decide)
  refine m_whole hi hm h1 (COK_set hm.2.1 (Or.inr (Or.inr (Or.inr ⟨rfl, by decide, by decide⟩)))) fun F U h2 ht h41 _ => ⟨rfl, rfl, bnd (N := 7) rfl (by decide) (by decide), fun m6 e6 => ?_⟩
  have l3 : lw (cSet (zSet (mcup D) 6 3) 6) = none := by
    show lw (zu (cSet (mcup D)) 6 3 6) = none
    rw [zu_at]
    exact hm.2.2.2.1.none (by omega)
  rw [l3, zOn_hand, ← ho1]
  have e6 : m6 = (wr F 153 6 l, rho n1 U) := e6
  subst e6
  have h3 : MAc D W (wr F 153 6 l) U (zSet (mcup D) 6 l) := (h2.set (k := 6) (v := l) (by decide) (by decide)).eq zSet_zSet
  have hc3 : COK (zSet (mcup D) 6 l) := COK_set hm.2.1 (Or.inr (Or.inr (Or.inr ⟨rfl, hl.1.1, by omega⟩)))
  have self5 : zSet (mcup D) 6 l = zSet (zSet (mcup D) 6 l) 5 (cSet (mcup D) 5) := by
    have e : zu (zu (cSet (mcup D)) 6 l) 5 (cSet (mcup D) 5) = zu (cSet (mcup D)) 6 l := by
      funext j
      show (if j = 5 then cSet (mcup D) 5 else zu (cSet (mcup D)) 6 l j) = _
      by_cases q : j = 5
      · rw [if_pos q, q]
        rfl
      · rw [if_neg q]
    show _ = (_, _, _, zu (zu (cSet (mcup D)) 6 l) 5 (cSet (mcup D) 5), _)
    rw [e]
    rfl
  have hb : ∀ k : Nat, k ≤ 20 → 0 ≤ zhelp (mcup D) (lw l) (wkm D a) k ∧ zhelp (mcup D) (lw l) (wkm D a) k ≤ 160000000 := fun k hk => zOn_nn (COK_set hm.2.1 (Or.inr (Or.inr (Or.inl ⟨rfl, by omega, by omega⟩)))) (hm.2.2.2.2 a hi.1 hi.2).2
  refine Wp.loop (σ := (Int × Int × Int) × Int) (fun σ => [some (vr 152), some (vi a), some (vi l), some (vi (cSet (mcup D) 6)), some (vi (cSet (mcup D) 5)), some (vi o1), some (vi σ.1.1), some (vi σ.1.2.1), some (vi σ.1.2.2), some (vi σ.2), none])
    (fun σ μ => ∃ (E : DD) (V : Nat → Nat) (v : Int), μ = (E, rho n1 V) ∧ MAc D W E V (zSet (zSet (mcup D) 6 l) 5 v) ∧ 0 ≤ σ.2 ∧ σ.2 ≤ 21 ∧ σ.1.1 = zbits (zhelp (mcup D) (lw l) (wkm D a)) o1 σ.2.toNat ∧ Zs2 (zhelp (mcup D) (lw l) (wkm D a)) σ.2.toNat σ.1.2.1 σ.1.2.2)
    (fun σ => (21 - σ.2).toNat) ?_ ((0, -1, 0), 0) _ ⟨_, U, _, rfl, h3.eq self5, by decide, by decide, rfl, Or.inl ⟨rfl, rfl, rfl⟩⟩
  rintro ⟨⟨bt, ls, ix⟩, k⟩ μ ⟨E, V, v, rfl, h, k0, k1, hbt, hz⟩ ih
  dsimp only at k0 k1 hbt hz ih ⊢
  refine sg_X10_helps_74 ⟨fun cc => ⟨rfl, rfl, bnd (N := 7) rfl (by decide) (by decide), fun m1 e1 => ?_⟩, fun cc => ⟨rfl, rfl, bnd (N := 7) rfl (by decide) (by decide), fun m7 e7 => ?_⟩⟩
  · have e1 : m1 = (wr E 153 6 (cSet (mcup D) 6), rho n1 V) := e1
    subst e1
    refine ⟨bnd (N := 7) rfl (by decide) (by decide), fun m2 e2 m3 e3 => ?_⟩
    have e2 : m2 = (wr (wr E 153 6 (cSet (mcup D) 6)) 153 5 (cSet (mcup D) 5), rho n1 V) := e2
    subst e2
    have hh : MAc D W (wr (wr E 153 6 (cSet (mcup D) 6)) 153 5 (cSet (mcup D) 5)) V (mcup D) := by
      refine ((h.set (k := 6) (v := cSet (mcup D) 6) (by decide) (by decide)).set (k := 5) (v := cSet (mcup D) 5) (by decide) (by decide)).eq ?_
      rw [zSet_comm (show (5 : Int) ≠ 6 by decide), zSet_zSet, zSet_back, zSet_self]
    obtain ⟨G0, hG0⟩ : ∃ G0, G0 = wr (wr E 153 6 (cSet (mcup D) 6)) 153 5 (cSet (mcup D) 5) := ⟨_, rfl⟩
    rw [← hG0] at hh
    have e3 : m3 = (wr G0 152 14 0, rho n1 V) := by rw [hG0]; exact e3
    subst e3
    obtain ⟨q1, q2⟩ := hz.is (by omega)
    have e21 : k.toNat = 21 := by omega
    rw [e21] at q1 q2 hbt
    refine cV (C_mtl (MTl.beg (E := G0)) (by decide)) ?_
    rintro m ⟨G1, rfl, g1⟩
    refine ⟨rfl, cV (C_mtl g1 (by simp)) ?_⟩
    rintro m ⟨G2, rfl, g2⟩
    refine ⟨rfl, cV (C_mtl g2 (by simp)) ?_⟩
    rintro m ⟨G3, rfl, g3⟩
    refine ⟨_, rfl, Was_tell hh g3 ?_ ?_⟩
    · rw [hS, ← hbt]
    · rw [hS, ← q1, ← q2]
      rfl
  · have e7 : m7 = (wr E 153 5 k, rho n1 V) := e7
    subst e7
    have hk2 : MAc D W (wr E 153 5 k) V (zSet (zSet (mcup D) 6 l) 5 k) := (h.set (k := 5) (v := k) (by decide) (by decide)).eq zSet_zSet
    have hc2 : COK (zSet (zSet (mcup D) 6 l) 5 k) := COK_set hc3 (Or.inr (Or.inr (Or.inl ⟨rfl, by omega, by omega⟩)))
    refine m_whole hi hm hk2 hc2 fun F2 U2 h2' ht2 h412 _ => ?_
    have ll : lw (cSet (zSet (zSet (mcup D) 6 l) 5 k) 6) = lw l := by
      rw [zSet_ne (by decide)]
      show lw (zu (cSet (mcup D)) 6 l 6) = _
      rw [zu_at]
    have ek : ((k.toNat : Nat) : Int) = k := by omega
    have ex : oSum (zOn (zSet (zSet (mcup D) 6 l) 5 k) (lw l) (wkm D a) 1) = zhelp (mcup D) (lw l) (wkm D a) k.toNat := by
      rw [zSet_comm (show (6 : Int) ≠ 5 by decide), zOn_hand]
      show _ = oSum (zOn (zSet (mcup D) 5 ((k.toNat : Nat) : Int)) (lw l) (wkm D a) 1)
      rw [ek]
    rw [ll, ex]
    have hbk := hb k.toNat (by omega)
    have hzb : zbits (zhelp (mcup D) (lw l) (wkm D a)) o1 (k + 1).toNat = if zhelp (mcup D) (lw l) (wkm D a) k.toNat < o1 then bOr bt (bShl 1 k) else bt := by
      rw [show (k + 1).toNat = k.toNat + 1 by omega, hbt]
      show (if zhelp (mcup D) (lw l) (wkm D a) k.toNat < o1 then bOr (zbits (zhelp (mcup D) (lw l) (wkm D a)) o1 k.toNat) (bShl 1 ((k.toNat : Nat) : Int)) else _) = _
      rw [ek]
    have hbw : w32 bt = bt := by rw [hbt]; exact zbits_w _
    have wk : w32 (k + 1) = k + 1 := w32_id (by omega) (by omega)
    have nx : (k + 1).toNat = k.toNat + 1 := by omega
    obtain ⟨x, hx⟩ : ∃ x, x = zhelp (mcup D) (lw l) (wkm D a) k.toNat := ⟨_, rfl⟩
    rw [← hx] at hbk hzb ⊢
    -- the least, whatever the bits
    have next : ∀ b', b' = zbits (zhelp (mcup D) (lw l) (wkm D a)) o1 (k + 1).toNat → ∀ v', v' = w32 (k + 1) → ∀ l' i', Zs2 (zhelp (mcup D) (lw l) (wkm D a)) (k.toNat + 1) l' i' → Wp (d + 131) 0 0 mX10_helps 74 [some (vr 152), some (vi a), some (vi l), some (vi (cSet (mcup D) 6)), some (vi (cSet (mcup D) 5)), some (vi o1), some (vi b'), some (vi l'), some (vi i'), some (vi v'), none] [] (F2, rho n1 U2) (KI (Was n1 D W S)) := by
      rintro b' hb' v' hv' l' i' hz'
      rw [wk] at hv'
      subst hv'
      refine ih ((b', l', i'), k + 1) _ ⟨F2, U2, _, rfl, h2', by dsimp only; omega, by dsimp only; omega, hb', ?_⟩ (by dsimp only; omega)
      dsimp only
      rw [nx]
      exact hz'
    have n1' : ls = -1 → Zs2 (zhelp (mcup D) (lw l) (wkm D a)) (k.toNat + 1) x k := fun e => by
      have := hz.first e hx.symm (by omega) hbk.1
      rwa [ek] at this
    have n2' : ¬ ls = -1 → x < ls → Zs2 (zhelp (mcup D) (lw l) (wkm D a)) (k.toNat + 1) x k := fun e e2 => by
      have := hz.less e hx.symm e2 hbk.1
      rwa [ek] at this
    have n3' : ¬ ls = -1 → ¬ x < ls → Zs2 (zhelp (mcup D) (lw l) (wkm D a)) (k.toNat + 1) ls ix := fun e e2 => hz.keep e hx.symm e2
    refine ⟨fun c1 b' eb => ?_, fun c1 b' eb => ?_⟩
    · have eb : b' = zbits (zhelp (mcup D) (lw l) (wkm D a)) o1 (k + 1).toNat := by rw [eb, hzb, if_neg (by omega), bOr_0 hbw]
      exact ⟨fun c2 v' ev => next b' eb v' ev _ _ (n1' c2), fun c2 => ⟨fun c3 v' ev => next b' eb v' ev _ _ (n2' c2 c3), fun c3 v' ev => next b' eb v' ev _ _ (n3' c2 c3)⟩⟩
    · have eb : b' = zbits (zhelp (mcup D) (lw l) (wkm D a)) o1 (k + 1).toNat := by rw [eb, hzb, if_pos (by omega)]
      exact ⟨fun c2 v' ev => next b' eb v' ev _ _ (n1' c2), fun c2 => ⟨fun c3 v' ev => next b' eb v' ev _ _ (n2' c2 c3), fun c3 v' ev => next b' eb v' ev _ _ (n3' c2 c3)⟩⟩
/-- the place of the greatest, as the model looks for it -/
def Zmo (f : Int → Int) (n b : Int) : Prop := (zmo f n.toNat = (-1, 0) ∧ b = 0 ∧ (1 ≤ n → f 0 = 0)) ∨ (zmo f n.toNat = (b, f b) ∧ 0 < f b ∧ 0 ≤ b ∧ b < n)
theorem Zmo.skip {f : Int → Int} {n b : Int} (h : Zmo f n b) (n0 : 0 ≤ n) (hp : ∀ k, 0 ≤ k → k < 1000 → 0 ≤ f k) (n1 : n < 1000) (c : f n ≤ f b) : Zmo f (n + 1) b := by
  have e : zmo f (n + 1).toNat = if (zmo f n.toNat).2 < f n then (n, f n) else zmo f n.toNat := by
    rw [show (n + 1).toNat = n.toNat + 1 by omega]
    show (if (zmo f n.toNat).2 < f ((n.toNat : Nat) : Int) then (((n.toNat : Nat) : Int), f ((n.toNat : Nat) : Int)) else zmo f n.toNat) = _
    rw [show ((n.toNat : Nat) : Int) = n by omega]
  have pn := hp n n0 n1
  rcases h with ⟨h1, h2, h3⟩ | ⟨h1, h2, h3, h4⟩
  · subst h2
    by_cases z : n = 0
    · subst z
      by_cases q : 0 < f 0
      · exact Or.inr ⟨by rw [e, h1, if_pos q], q, by decide, by decide⟩
      · exact Or.inl ⟨by rw [e, h1, if_neg q], rfl, fun _ => by omega⟩
    · have f0 := h3 (by omega)
      exact Or.inl ⟨by rw [e, h1, if_neg (show ¬ (0 : Int) < f n by omega)], rfl, fun _ => f0⟩
  · exact Or.inr ⟨by rw [e, h1, if_neg (show ¬ f b < f n by omega)], h2, h3, by omega⟩
theorem Zmo.take {f : Int → Int} {n b : Int} (h : Zmo f n b) (n0 : 0 ≤ n) (hp : ∀ k, 0 ≤ k → k < 1000 → 0 ≤ f k) (c : ¬ f n ≤ f b) : Zmo f (n + 1) n := by
  have e : zmo f (n + 1).toNat = if (zmo f n.toNat).2 < f n then (n, f n) else zmo f n.toNat := by
    rw [show (n + 1).toNat = n.toNat + 1 by omega]
    show (if (zmo f n.toNat).2 < f ((n.toNat : Nat) : Int) then (((n.toNat : Nat) : Int), f ((n.toNat : Nat) : Int)) else zmo f n.toNat) = _
    rw [show ((n.toNat : Nat) : Int) = n by omega]
  rcases h with ⟨h1, h2, h3⟩ | ⟨h1, h2, h3, h4⟩
  · subst h2
    have p0 := hp 0 (by decide) (by decide)
    exact Or.inr ⟨by rw [e, h1, if_pos (show (0 : Int) < f n by omega)], by omega, n0, by omega⟩
  · exact Or.inr ⟨by rw [e, h1, if_pos (show f b < f n by omega)], by omega, n0, by omega⟩
theorem C_modds {a n : Int} (hm : MRun D lw) (hst : 0 ≤ a ∧ a ≤ 3 → ∀ i, -1 ≤ zstepAt (wkm D a) i ∧ zstepAt (wkm D a) i ≤ 999) : Cl (d + 131) 0 0 mX10_odds [vr 152, vi a, vi n] (D, rho n1 W) (KI (Was n1 D W (S_odds (mcup D) (mhl D lw) (wkm D) a n))) := by
  refine Cl_of mb_X10_odds (Nat.le_of_ble_eq_true rfl) (sg_X10_odds_0 ⟨rfl, fun m1 e1 => ?_⟩)
  obtain ⟨E, hE⟩ : ∃ E, E = wr D 152 15 0 := ⟨_, rfl⟩
  have e1 : m1 = (E, rho n1 W) := by rw [hE]; exact e1
  subst e1
  have h0 : MAc D W E W (mcup D) := MAc.beg hE
  have no : ¬ ((0 ≤ a ∧ a ≤ 3) ∧ (1 ≤ n ∧ n ≤ 20)) → Was n1 D W (S_odds (mcup D) (mhl D lw) (wkm D) a n) (-1) (E, rho n1 W) := fun h => Was_no h0 (by unfold S_odds; rw [if_neg h]) (by unfold S_odds; rw [if_neg h])
  refine cB C_misWalk (fun hi => yE (cB C_in (fun hn => yN ?_) (fun hn => nN ⟨_, rfl, no (fun q => hn q.2)⟩))) (fun hi => nE ⟨_, rfl, no (fun q => hi q.1)⟩)
  have hS : S_odds (mcup D) (mhl D lw) (wkm D) a n = (0, some [zup (zways (mcup D) (mhl D lw) (wkm D a) n.toNat) n, zlow (zways (mcup D) (mhl D lw) (wkm D a) n.toNat) n, (zmo (fun s => zoft (mcup D) (mhl D lw) (wkm D a) s n.toNat) 1000).1]) := if_pos ⟨hi, hn⟩
  generalize S_odds (mcup D) (mhl D lw) (wkm D) a n = S at hS ⊢
  clear no
  have m176 : ∀ {E E' : DD} {V : Nat → Nat}, MAc D W E V (mcup D) → Fr (fun q _ => q = 179) E E' → MAc D W E' V (mcup D) := by
    rintro E E' V ⟨q1, q2, q3, q4, q5, q6⟩ f
    refine ⟨q1, q2.trans (f.mono (fun q j z => by unfold maF; omega)), (mst_fr f (by omega) (by omega) (fun q j x y => by omega)).trans q3, (mcup_fr f (fun j x y => by omega) (fun q j x y => by omega)).trans q4, by rw [f 152 15 (by omega)]; exact q5, ?_⟩
    rw [← q6]
    unfold MTV mtoldv
    rw [f 152 14 (by omega), f.obj (o := 160) (fun j => by omega)]
  -- clearing
  refine Wp.loop (σ := Int) (fun k => [some (vr 152), some (vi a), some (vi n), some (vi k), none, none])
    (fun k μ => ∃ H : DD, μ = (H, rho n1 W) ∧ 0 ≤ k ∧ k ≤ 1000 ∧ MAc D W H W (mcup D) ∧ ∀ j, 0 ≤ j → j < k → H 179 j = 0)
    (fun k => (1000 - k).toNat) ?_ 0 _ ⟨E, rfl, by decide, by decide, h0, fun j a b => by omega⟩
  rintro k μ ⟨H, rfl, k0, k1, hH, hc⟩ ih
  refine sg_X10_odds_26 ⟨fun cc => ?_, fun cc => ⟨rfl, rfl, bnd (N := 1000) rfl k0 (by omega), fun m1 e1 v1 ev => ?_⟩⟩
  rotate_left
  · have e1 : m1 = (wr H 179 k 0, rho n1 W) := e1
    subst e1
    rw [w32_id (by omega) (by omega)] at ev
    subst ev
    refine ih (k + 1) _ ⟨_, rfl, by omega, by omega, m176 hH (Fr.refl.wr rfl), fun j j0 j1 => ?_⟩ (by omega)
    by_cases q : j = k
    · rw [q, wr_at]
    · rw [wr_j q]
      exact hc j j0 (by omega)
  have ek : k = 1000 := by omega
  subst ek
  clear ih k0 k1 cc h0
  -- the ways
  refine Wp.loop (σ := Int × Int) (fun σ => [some (vr 152), some (vi a), some (vi n), some (vi σ.1), some (vi σ.2), none])
    (fun σ μ => ∃ (H : DD) (U : Nat → Nat), μ = (H, rho n1 U) ∧ MAc D W H U (mcup D) ∧ 1 ≤ σ.2 ∧ σ.2 ≤ n + 1 ∧ σ.1 = zways (mcup D) (mhl D lw) (wkm D a) (σ.2 - 1).toNat ∧ ∀ j, 0 ≤ j → j < 1000 → H 179 j = zoft (mcup D) (mhl D lw) (wkm D a) j (σ.2 - 1).toNat)
    (fun σ => (n + 1 - σ.2).toNat) ?_ (0, 1) _ ⟨H, W, rfl, hH, by dsimp only; omega, by dsimp only; omega, rfl, hc⟩
  clear hc hH
  rintro ⟨ways, s⟩ μ ⟨H, U, rfl, hH, s0, s1, hw, hf⟩ ih
  dsimp only at s0 s1 hw hf ih ⊢
  have wr1 := zways_rng (c := mcup D) (L := mhl D lw) (w := wkm D a) (s - 1).toNat
  rw [← hw] at wr1
  refine sg_X10_odds_51 ⟨fun cc => ?_, fun cc => ⟨rfl, m_whole hi hm hH hm.2.1 fun F U2 h2 ht h41 fF => ?_⟩⟩
  · have es : (s - 1).toNat = n.toNat := by omega
    rw [es] at hw hf
    have hp : ∀ k, 0 ≤ k → k < 1000 → 0 ≤ (fun s => zoft (mcup D) (mhl D lw) (wkm D a) s n.toNat) k := fun k _ _ => (zoft_rng n.toNat).1
    refine Wp.loop (σ := Int × Int) (fun σ => [some (vr 152), some (vi a), some (vi n), some (vi ways), some (vi σ.1), some (vi σ.2)])
      (fun σ μ => μ = (H, rho n1 U) ∧ 0 ≤ σ.2 ∧ σ.2 ≤ 1000 ∧ 0 ≤ σ.1 ∧ σ.1 < 1000 ∧ Zmo (fun s => zoft (mcup D) (mhl D lw) (wkm D a) s n.toNat) σ.2 σ.1)
      (fun σ => (1000 - σ.2).toNat) ?_ (0, 0) _ ⟨rfl, by decide, by decide, by decide, by decide, Or.inl ⟨rfl, rfl, fun q => by dsimp only at q; omega⟩⟩
    clear ih
    rintro ⟨b, k⟩ μ ⟨rfl, k0, k1, b0, b1, hz⟩ ih
    dsimp only at k0 k1 b0 b1 hz ih ⊢
    refine sg_X10_odds_106 ⟨fun c2 => ⟨rfl, fun m1 e1 => ?_⟩, fun c2 => ⟨rfl, Or.inl rfl, bnd (N := 1000) rfl k0 (by omega), bnd (N := 1000) rfl b0 b1, ?_⟩⟩
    · have e1 : m1 = (wr H 152 14 0, rho n1 U) := e1
      subst e1
      refine cV (C_mtellPart (u := ways) (lo := n) (by omega) (by omega) (MTl.beg (E := H)) (by decide)) ?_
      rintro m ⟨G, rfl, g⟩
      have gb : mD (G, rho n1 U) (mR (G, rho n1 U) 152 48) b = zoft (mcup D) (mhl D lw) (wkm D a) b n.toNat := by
        show G 179 b = _
        rw [g.1 179 b (by unfold mtF; omega)]
        exact hf b b0 b1
      have k1000 : k = 1000 := by omega
      subst k1000
      refine ⟨rfl, Or.inl rfl, bnd (N := 1000) rfl b0 b1, ?_⟩
      rw [gb]
      have fin : ∀ x, x = (zmo (fun s => zoft (mcup D) (mhl D lw) (wkm D a) s n.toNat) 1000).1 → ∃ (mc1 ms1 : Nat) (K1 : Mem → Prop), Cl (d + 130) mc1 ms1 mX10_tell [vr 152, vl x] (G, rho n1 U) (KV K1) ∧ mc1 ≤ 0 ∧ ms1 ≤ 0 ∧ (∀ m3, K1 m3 → KI (Was n1 D W S) (some (some (vi 0))) m3) := by
        intro x hx
        refine cV (C_mtl g (by simp)) ?_
        rintro m ⟨G2, rfl, g2⟩
        refine ⟨_, rfl, Was_tell hH g2 (by rw [hS]) ?_⟩
        rw [hS, hx, hw]
        rfl
      refine ⟨fun c3 => fin b ?_, fun c3 => fin (-1) ?_⟩
      · rcases hz with ⟨q1, q2, q3⟩ | ⟨q1, q2, q3, q4⟩
        · subst q2
          exact absurd (q3 (by decide)) c3
        · exact (congrArg Prod.fst q1).symm
      · rcases hz with ⟨q1, q2, q3⟩ | ⟨q1, q2, q3, q4⟩
        · exact (congrArg Prod.fst q1).symm
        · have q2 : 0 < zoft (mcup D) (mhl D lw) (wkm D a) b n.toNat := q2
          omega
    · rw [show mD (H, rho n1 U) (mR (H, rho n1 U) 152 48) k = _ from hf k k0 (by omega), show mD (H, rho n1 U) (mR (H, rho n1 U) 152 48) b = _ from hf b b0 b1]
      refine ⟨fun c3 v ev => ?_, fun c3 v ev => ?_⟩
      · rw [w32_id (by omega) (by omega)] at ev
        subst ev
        exact ih (b, k + 1) _ ⟨rfl, by dsimp only; omega, by dsimp only; omega, b0, b1, hz.skip k0 hp (by omega) c3⟩ (by dsimp only; omega)
      · rw [w32_id (by omega) (by omega)] at ev
        subst ev
        exact ih (k, k + 1) _ ⟨rfl, by dsimp only; omega, by dsimp only; omega, k0, by dsimp only; omega, hz.take k0 hp c3⟩ (by dsimp only; omega)
  · have ews : w32 (s + 1) = s + 1 := w32_id (by omega) (by omega)
    have eww : w32 (ways + 1) = ways + 1 := w32_id (by omega) (by omega)
    have nx : (s + 1 - 1).toNat = (s - 1).toNat + 1 := by omega
    have es : (((s - 1).toNat : Nat) : Int) + 1 = s := by omega
    have f176 : F 179 = H 179 := fF.obj (fun j => by unfold mrF mgF; omega)
    have hnn := (zOn_nn (c := mcup D) (L := mhl D lw) (w := wkm D a) (seed := s) hm.2.1 (hm.2.2.2.2 a hi.1 hi.2).2).1
    have h41 : F 152 41 = zstepAt (wkm D a) (oFirst (zOn (mcup D) (mhl D lw) (wkm D a) s)) := h41
    have stepw : zways (mcup D) (mhl D lw) (wkm D a) (s + 1 - 1).toNat = if 0 < oSum (zOn (mcup D) (mhl D lw) (wkm D a) s) then ways + 1 else ways := by
      rw [nx, hw]
      show (if 0 < oSum (zOn (mcup D) (mhl D lw) (wkm D a) ((((s - 1).toNat : Nat) : Int) + 1)) then _ else _) = _
      rw [es]
    have stepf : ∀ j, zoft (mcup D) (mhl D lw) (wkm D a) j (s + 1 - 1).toNat = if 0 < oSum (zOn (mcup D) (mhl D lw) (wkm D a) s) ∧ zstepAt (wkm D a) (oFirst (zOn (mcup D) (mhl D lw) (wkm D a) s)) = j then zoft (mcup D) (mhl D lw) (wkm D a) j (s - 1).toNat + 1 else zoft (mcup D) (mhl D lw) (wkm D a) j (s - 1).toNat := fun j => by
      rw [nx]
      show (if 0 < oSum (zOn (mcup D) (mhl D lw) (wkm D a) ((((s - 1).toNat : Nat) : Int) + 1)) ∧ zstepAt (wkm D a) (oFirst (zOn (mcup D) (mhl D lw) (wkm D a) ((((s - 1).toNat : Nat) : Int) + 1))) = j then _ else _) = _
      rw [es]
    obtain ⟨st0, st1⟩ := hst hi (oFirst (zOn (mcup D) (mhl D lw) (wkm D a) s))
    rw [← h41] at st0 st1 stepf
    refine ⟨fun c1 v1 e1 => ⟨rfl, fun c2 v2 e2 => ?_, fun c2 => ?_⟩, fun c1 v4 e4 => ?_⟩
    · have c1 : ¬ oSum (zOn (mcup D) (mhl D lw) (wkm D a) s) = 0 := c1
      have c2 : F 152 41 = -1 := c2
      rw [ews] at e2
      rw [eww] at e1
      subst e1 e2
      refine ih (ways + 1, s + 1) _ ⟨F, U2, rfl, h2, by dsimp only; omega, by dsimp only; omega, by dsimp only; rw [stepw, if_pos (by omega)], fun j j0 j1 => ?_⟩ (by dsimp only; omega)
      dsimp only
      rw [f176, stepf j, if_neg (by omega)]
      exact hf j j0 j1
    · have c1 : ¬ oSum (zOn (mcup D) (mhl D lw) (wkm D a) s) = 0 := c1
      have c2 : ¬ F 152 41 = -1 := c2
      have b41 : (0 : Int) ≤ F 152 41 ∧ F 152 41 < ((1000 : Nat) : Int) := ⟨by omega, by omega⟩
      refine ⟨Or.inl rfl, b41, rfl, b41, fun m2 em v3 e3 => ?_⟩
      have em : m2 = (wr F 179 (F 152 41) (w32 (F 179 (F 152 41) + 1)), rho n1 U2) := em
      subst em
      rw [ews] at e3
      rw [eww] at e1
      subst e1 e3
      refine ih (ways + 1, s + 1) _ ⟨_, U2, rfl, m176 h2 (Fr.refl.wr rfl), by dsimp only; omega, by dsimp only; omega, by dsimp only; rw [stepw, if_pos (by omega)], fun j j0 j1 => ?_⟩ (by dsimp only; omega)
      dsimp only
      have zr := zoft_rng (c := mcup D) (L := mhl D lw) (w := wkm D a) (s := j) (s - 1).toNat
      rw [stepf j]
      by_cases q : j = F 152 41
      · rw [if_pos ⟨by omega, q.symm⟩, q, wr_at, f176, hf _ (by omega) (by omega), w32_id (by rw [← q]; omega) (by rw [← q]; omega)]
      · rw [wr_j q, if_neg (fun z => q z.2.symm), f176]
        exact hf j j0 j1
    · have c1 : oSum (zOn (mcup D) (mhl D lw) (wkm D a) s) = 0 := c1
      rw [ews] at e4
      subst e4
      refine ih (ways, s + 1) _ ⟨F, U2, rfl, h2, by dsimp only; omega, by dsimp only; omega, by dsimp only; rw [stepw, if_neg (by omega)], fun j j0 j1 => ?_⟩ (by dsimp only; omega)
      dsimp only
      rw [f176, stepf j, if_neg (by omega)]
      exact hf j j0 j1
end MA4
