/-! ===== what the class's calls answer, 1 ===== -/
def PF (D : DD) (W : Nat → Nat) (D' : DD) (W' : Nat → Nat) : Prop := Fr (fun q j => aF q j ∨ tlF q j) D D' ∧ ∀ i, i ≠ 9 → W' i = W i
def TV (D : DD) : List Int × Int := (toldv D, D 4 16)
def tvn (o : Option (List Int)) (t : List Int × Int) : List Int × Int := match o with
  | none => t
  | some l => (l, l.length)
/-- an answer, what is told, nothing else -/
def Wh (n1 : Nat) (D : DD) (W : Nat → Nat) (S : Int × Option (List Int)) (r : Int) (m : Mem) : Prop := ∃ (D' : DD) (W' : Nat → Nat), m = (D', rho n1 W') ∧ PF D W D' W' ∧ r = S.1 ∧ TV D' = tvn S.2 (TV D)
theorem AF.tv {D D' : DD} {W W' : Nat → Nat} (h : AF D W D' W') : TV D' = TV D := by
  unfold TV toldv
  rw [h.1.obj (o := 98) (fun j => by unfold aF; omega), h.1 4 16 (by unfold aF; omega)]
theorem AF.pf {D D' : DD} {W W' : Nat → Nat} (h : AF D W D' W') : PF D W D' W' := ⟨h.1.mono (fun _ _ z => Or.inl z), h.2⟩
theorem Wh_no {n1 : Nat} {D D' : DD} {W W' : Nat → Nat} {S : Int × Option (List Int)} {x : Int} (h : AF D W D' W') (hx : x = S.1) (hs : S.2 = none) : Wh n1 D W S x (D', rho n1 W') :=
  ⟨D', W', rfl, h.pf, hx, by rw [hs, h.tv]; rfl⟩
theorem Wh_tell {n1 : Nat} {D E D' : DD} {W V : Nat → Nat} {S : Int × Option (List Int)} {x k : Int} {l : List Int} (h : AF D W E V) (hF : Fr tlF E D') (hk : D' 4 16 = k) (hl : toldv D' = l) (hx : x = S.1) (hs : S.2 = some l) (hn : k = l.length) : Wh n1 D W S x (D', rho n1 V) :=
  ⟨D', V, rfl, ⟨h.pf.1.trans (hF.mono (fun _ _ z => Or.inr z)), h.2⟩, hx, by rw [hs]; show (toldv D', D' 4 16) = (l, (l.length : Int)); rw [hl, hk, hn]⟩
def wsv (D : DD) (W : Nat → Nat) (a : Int) : Wv := wkv D (W a.toNat)
def lawsv (D : DD) (W : Nat → Nat) (l : Int) : Option (List Int) := lawO D (tlaw D W l)
theorem TRc.pre {D E : DD} {W V : Nat → Nat} {c : Cv} (h : TRc D W E V c) (hm : MP D W) (hc : COK c) {i : Nat} (hi : i < 5) : TPre E V (W i) ∧ cupv E 31 = c ∧ lawO E (V 9) = hcode D W ∧ wkv E (W i) = wkv D (W i) := by
  obtain ⟨e1, e2, e3⟩ := h.1.walk hm hi
  refine ⟨⟨by rw [h.2.1]; exact hc, by rw [h.2.2]; exact tlaw_id hm, hm.2.1 i hi, by rw [e3]; exact (hm.2.2.2 i hi).1, by rw [e3]; exact (hm.2.2.2 i hi).2⟩, h.2.1, ?_, e2⟩
  rw [h.2.2]
  exact h.1.lw (tlaw_id hm)
theorem TRc.preA {D E : DD} {W V : Nat → Nat} {c : Cv} (h : TRc D W E V c) (hm : MP D W) (hc : COK c) {a : Int} (a0 : 0 ≤ a) (a1 : a ≤ 3) : TPre E V (W a.toNat) ∧ cupv E 31 = c ∧ lawO E (V 9) = hcode D W ∧ wkv E (W a.toNat) = wsv D W a := h.pre hm hc (by omega)
theorem TRc.run {D E E' : DD} {W V : Nat → Nat} {c : Cv} (h : TRc D W E V c) (hF : Fr rF E E') : TRc D W E' V c :=
  ⟨⟨h.1.1.trans (hF.mono rF_aF), h.1.2⟩, by rw [cupv_fr hF (fun q j a b => by unfold rF; omega)]; exact h.2.1, h.2.2⟩
theorem TRd.c {D E : DD} {W V : Nat → Nat} (h : TRd D W E V) : TRc D W E V (cupv D 5) := h
/-- behind other work that left the class's own things: the same again -/
theorem TRc.back {D E G : DD} {W V U : Nat → Nat} {c : Cv} (h : AF D W E V) (hm : MP D W) (g : TRc E V G U c) : TRc D W G U c :=
  ⟨h.trans g.1, g.2.1, by rw [g.2.2, h.cup, h.tl hm]⟩
theorem wref {n1 : Nat} {D E : DD} {W V : Nat → Nat} (h : AF D W E V) {a : Int} (a0 : 0 ≤ a) (a1 : a ≤ 3) : mR (E, rho n1 V) (mR (E, rho n1 V) 4 5) a = W a.toNat := (RF_19 a0 (by omega)).trans (h.2 _ (by omega))
theorem trv_sum {D : DD} {o : Zo} (h : zout (trv D) = o) : D 30 4 = oSum o ∧ D 30 5 = oFirst o ∧ D 30 6 = oHigh o ∧ D 30 7 = oGsl o ∧ lst (D 42) (D 30 9) = oList o := by
  subst h
  exact ⟨rfl, rfl, rfl, rfl, rfl⟩
def S_would (c : Cv) (L : Option (List Int)) (ws : Int → Wv) (a v : Int) : Int × Option (List Int) :=
  if 0 ≤ a ∧ a ≤ 3 then (oSum (zOn c L (ws a) v), some [oFirst (zOn c L (ws a) v), zstepAt (ws a) (oFirst (zOn c L (ws a) v)), oHigh (zOn c L (ws a) v)]) else (-1, none)
def zfill (c : Cv) (k : Int) : Cv := (c.1, c.2.1, w32 ((w32 (cRim c * k)).tdiv 20), c.2.2.2)
def zfull (c : Cv) (L : Option (List Int)) (w : Wv) : Nat → Int
  | 0 => -2
  | n + 1 => if oSum (zOn (zfill c n) L w 1) = 0 then cFill (zfill c n) else zfull c L w n
def S_full (c : Cv) (L : Option (List Int)) (ws : Int → Wv) (a : Int) : Int × Option (List Int) := (if 0 ≤ a ∧ a ≤ 3 then zfull c L (ws a) 21 else -1, none)
def zfirst (p : Int → Bool) : Nat → Int → Int
  | 0, _ => -2
  | n + 1, i => if p i = true then i else zfirst p n (i + 1)
def S_layers (c : Cv) (L : Option (List Int)) (ws : Int → Wv) (a : Int) : Int × Option (List Int) := (if 0 ≤ a ∧ a ≤ 3 then zfirst (fun k => decide (oSum (zOn (zSet c 2 k) L (ws a) 1) = 0)) 10 0 else -1, none)
def S_lid (c : Cv) (L : Option (List Int)) (ws : Int → Wv) (a much : Int) : Int × Option (List Int) := (if (0 ≤ a ∧ a ≤ 3) ∧ (0 ≤ much ∧ much ≤ 9999) then zfirst (fun k => decide (oSum (zOn (zSet c 4 k) L (ws a) 1) ≤ much)) 101 0 else -1, none)
/-- the least, of equal ones the first -/
def zmn (f ix : Nat → Int) : Nat → Int × Int
  | 0 => (-1, 2147483647)
  | n + 1 => if f n < (zmn f ix n).2 then (ix n, f n) else zmn f ix n
def zbest (c : Cv) (L : Option (List Int)) (w : Wv) (gap : Int) : Int × Int := zmn (fun k => oHigh (zOn (zHole c gap (100 - k)) L w 1)) (fun k => 100 - k) 101
def S_best (c : Cv) (L : Option (List Int)) (ws : Int → Wv) (a gap : Int) : Int × Option (List Int) := if (0 ≤ a ∧ a ≤ 3) ∧ (0 ≤ gap ∧ gap ≤ cLast c - 1) then ((zbest c L (ws a) gap).1, some [(zbest c L (ws a) gap).2]) else (-1, none)
def S_turn (c : Cv) (L : Option (List Int)) (ws : Int → Wv) (a t : Int) : Int × Option (List Int) := if (0 ≤ a ∧ a ≤ 3) ∧ (0 ≤ t ∧ t ≤ 1000) then (oSum (zTurn c L (ws a) t), some [oSum (zOn c L (ws a) 1)]) else (-1, none)
def zdoor (c : Cv) (L : Option (List Int)) (w : Wv) : Int × Int := zmn (fun k => oSum (zTurn c L w (min (10 * k) (wTicks w)))) (fun k => min (10 * k) (wTicks w)) ((wTicks w + 19) / 10).toNat
def S_door (c : Cv) (L : Option (List Int)) (ws : Int → Wv) (a : Int) : Int × Option (List Int) := if 0 ≤ a ∧ a ≤ 3 then ((zdoor c L (ws a)).1, some [(zdoor c L (ws a)).2]) else (-1, none)
def ztwo (c : Cv) (L : Option (List Int)) (w : Wv) : Int × Int := zmn (fun k => oSum (zFrom c L w k)) (fun k => k) 41
def S_two (c : Cv) (L : Option (List Int)) (ws : Int → Wv) (a : Int) : Int × Option (List Int) := if 0 ≤ a ∧ a ≤ 3 then ((ztwo c L (ws a)).1, some [oSum (zOn c L (ws a) 1), (ztwo c L (ws a)).2]) else (-1, none)
def zpauses (c : Cv) (L : Option (List Int)) (w : Wv) (t : Int) : Int × Int := zmn (fun k => oSum (zPause c L w t k)) (fun k => k) 41
def S_pause (c : Cv) (L : Option (List Int)) (ws : Int → Wv) (a t : Int) : Int × Option (List Int) := if (0 ≤ a ∧ a ≤ 3) ∧ (0 ≤ t ∧ t ≤ 1000) then ((zpauses c L (ws a) t).1, some [(zpauses c L (ws a) t).2]) else (-1, none)
theorem COK_fill {c : Cv} {k : Int} (hc : COK c) (h0 : 0 ≤ k) (h1 : k ≤ 20) : COK (zfill c k) := by
  obtain ⟨l0, l1, r0, r1, f0, f1, rest⟩ := hc
  have p0 : 0 ≤ cRim c * k := Int.mul_nonneg (by omega) h0
  have p1 : cRim c * k ≤ cRim c * 20 := Int.mul_le_mul_of_nonneg_left h1 (by omega)
  have e : cFill (zfill c k) = (cRim c * k) / 20 := by
    show w32 ((w32 (cRim c * k)).tdiv 20) = _
    generalize cRim c * k = P at p0 p1 ⊢
    rw [w32_id (x := P) (by omega) (by omega), Int.tdiv_eq_ediv_of_nonneg p0, w32_id (by omega) (by omega)]
  refine ⟨l0, l1, r0, r1, ?_, ?_, rest⟩
  · rw [e]; omega
  · rw [e]
    show _ ≤ cRim c
    omega
theorem COK_hole {c : Cv} {k v : Int} (hc : COK c) (h0 : 0 ≤ v) (h1 : v ≤ 100) : COK (zHole c k v) := by
  obtain ⟨l0, l1, r0, r1, f0, f1, s0, s1, s2, s3, s4, s5, s6, ho⟩ := hc
  refine ⟨l0, l1, r0, r1, f0, f1, s0, s1, s2, s3, s4, s5, s6, fun j j0 j1 => ?_⟩
  show 0 ≤ zu (cHole c) k v j ∧ zu (cHole c) k v j ≤ 100
  unfold zu
  split
  · exact ⟨h0, h1⟩
  · exact ho j j0 j1
section PUB
variable {d n1 : Nat} {W : Nat → Nat} {D : DD}
theorem C_would {a v : Int} (hm : MP D W) : Cl (d + 7) 0 0 mX9_would [vr 4, vi a, vi v] (D, rho n1 W) (KI (Wh n1 D W (S_would (cupv D 5) (hcode D W) (wsv D W) a v))) := by
  refine Cl_of mb_X9_would (Nat.le_of_ble_eq_true rfl) (sg_X9_would_0 (cB C_isWalk (fun hy => yN ⟨rfl, cR (C_asItIs hm) ?_⟩) (fun hy => nN ⟨_, rfl, Wh_no AF.refl ?_ ?_⟩)))
  · rintro b m1 ⟨rfl, E, V, rfl, hT⟩
    have hT := hT.c
    obtain ⟨p1, p2, p3, p4⟩ := hT.preA hm hm.1 hy.1 hy.2
    rw [wref hT.1 hy.1 hy.2]
    refine ⟨rfl, rfl, bnd (N := 4) rfl hy.1 (by omega), rfl, cI (C_spiltOn p1) ?_⟩
    rintro x m2 ⟨E2, rfl, h2, o2, rfl⟩
    have hT2 := hT.run h2
    rw [p2, p3, p4] at o2
    rw [p2, p3, p4]
    obtain ⟨q1, q2, q3, q4, q5⟩ := trv_sum o2
    obtain ⟨r1, -, -, r4⟩ := hT2.preA hm hm.1 hy.1 hy.2
    rw [wref hT2.1 hy.1 hy.2]
    refine ⟨rfl, rfl, rfl, bnd (N := 4) rfl hy.1 (by omega), (sWk_of (n1 := n1) (W := V) r1.2.2.1).1, cI (C_stepAt (D := E2) (sWk_of r1.2.2.1) r1.2.2.2.1 r1.2.2.2.2) ?_⟩
    rintro x m3 ⟨rfl, rfl⟩
    refine ⟨rfl, rfl, cV C_tell3 ?_⟩
    rintro m4 ⟨E4, rfl, g1, g2, g3⟩
    refine ⟨_, rfl, Wh_tell hT2.1 g1 g2 g3 ?_ ?_ rfl⟩ <;> unfold S_would <;> rw [if_pos hy]
    · show some [_, _, _] = some [E2 30 5, zstepAt (wkv E2 (W a.toNat)) (E2 30 5), E2 30 6]
      rw [q2, q3, r4]
  · unfold S_would
    rw [if_neg hy]
  · unfold S_would
    rw [if_neg hy]
theorem C_full {a : Int} (hm : MP D W) : Cl (d + 7) 0 0 mX9_full [vr 4, vi a] (D, rho n1 W) (KI (Wh n1 D W (S_full (cupv D 5) (hcode D W) (wsv D W) a))) := by
  refine Cl_of mb_X9_full (Nat.le_of_ble_eq_true rfl) (sg_X9_full_0 (cB C_isWalk (fun hy => yN ?_) (fun hy => nN ⟨_, rfl, Wh_no AF.refl (if_neg hy).symm rfl⟩)))
  refine Wp.loop (σ := Int) (fun k => [some (vr 4), some (vi a), some (vi k), none])
    (fun k μ => ∃ (E : DD) (V : Nat → Nat), μ = (E, rho n1 V) ∧ AF D W E V ∧ -1 ≤ k ∧ k ≤ 20 ∧ zfull (cupv D 5) (hcode D W) (wsv D W a) 21 = zfull (cupv D 5) (hcode D W) (wsv D W a) (k + 1).toNat)
    (fun k => (k + 1).toNat) ?_ 20 (D, rho n1 W) ⟨D, W, rfl, AF.refl, by decide, by decide, rfl⟩
  rintro k μ ⟨E, V, rfl, hA, k0, k1, hv⟩ ih
  refine sg_X9_full_12 ⟨fun c => ⟨_, rfl, Wh_no hA ?_ rfl⟩, fun c => ⟨rfl, cR (C_asItIs (hA.mp hm)) ?_⟩⟩
  · unfold S_full
    rw [if_pos hy, hv, show (k + 1).toNat = 0 by omega]
    rfl
  · rintro b m1 ⟨rfl, G, U, rfl, hT⟩
    have hT := TRc.back hA hm hT.c
    rw [hA.cup] at hT
    refine ⟨rfl, rfl, rfl, rfl, fun m2 e2 => ?_⟩
    have er : G 5 1 = cRim (cupv D 5) := hT.1.1 5 1 (by unfold aF; omega)
    have hT2 : TRc D W (wr G 31 2 (w32 ((w32 (G 5 1 * k)).tdiv 20))) U (zfill (cupv D 5) k) := hT.wr (by decide) (by decide) (by
      unfold cupv zfill
      rw [wr_at, wr_j (by decide), wr_j (by decide), wr_o (by decide), wr_o (by decide), er]
      have h1 : G 31 0 = D 5 0 := congrArg (fun q : Cv => q.1) hT.2.1
      have h2 : G 31 1 = D 5 1 := congrArg (fun q : Cv => q.2.1) hT.2.1
      have h3 : (cut 7 (G (31 + 1)), cut 20 (G (31 + 2))) = (cut 7 (D (5 + 1)), cut 20 (D (5 + 2))) := congrArg (fun q : Cv => q.2.2.2) hT.2.1
      rw [h1, h2, h3]
      rfl)
    have e2 : m2 = (wr G 31 2 (w32 ((w32 (G 5 1 * k)).tdiv 20)), rho n1 U) := e2
    subst e2
    generalize wr G 31 2 (w32 ((w32 (G 5 1 * k)).tdiv 20)) = H at hT2
    obtain ⟨p1, p2, p3, p4⟩ := hT2.preA hm (COK_fill hm.1 (by omega) (by omega)) hy.1 hy.2
    rw [wref hT2.1 hy.1 hy.2]
    refine ⟨rfl, bnd (N := 4) rfl hy.1 (by omega), cI (C_keepsAll p1) ?_⟩
    rintro x m3 ⟨H2, rfl, h2, hx, -⟩
    rw [p2, p3, p4] at hx
    have hT3 := hT2.run h2
    have hfd : zfull (cupv D 5) (hcode D W) (wsv D W a) 21 = if oSum (zOn (zfill (cupv D 5) k) (hcode D W) (wsv D W a) 1) = 0 then cFill (zfill (cupv D 5) k) else zfull (cupv D 5) (hcode D W) (wsv D W a) (k - 1 + 1).toNat := by
      rw [hv, show (k + 1).toNat = k.toNat + 1 by omega]
      show (if oSum (zOn (zfill (cupv D 5) ((k.toNat : Nat) : Int)) _ _ 1) = 0 then cFill (zfill (cupv D 5) ((k.toNat : Nat) : Int)) else zfull _ _ _ k.toNat) = _
      rw [show ((k.toNat : Nat) : Int) = k by omega, show (k - 1 + 1).toNat = k.toNat by omega]
    refine ⟨fun c2 v e => ?_, fun c2 => ⟨rfl, rfl, _, rfl, Wh_no hT3.1 ?_ rfl⟩⟩
    · rw [w32_id (by omega) (by omega)] at e
      subst e
      refine ih (k + -1) _ ⟨H2, U, rfl, hT3.1, by omega, by omega, ?_⟩ (by omega)
      rw [hfd, if_neg (fun z => by rw [hx, bi_1 z] at c2; exact absurd c2 (by decide))]
      rfl
    · unfold S_full
      rw [if_pos hy, hfd, if_pos (Decidable.byContradiction fun z => c2 (by rw [hx, bi_0 z]))]
      exact congrArg (fun q : Cv => q.2.2.1) hT3.2.1
theorem C_layers {a : Int} (hm : MP D W) : Cl (d + 7) 0 0 mX9_layers [vr 4, vi a] (D, rho n1 W) (KI (Wh n1 D W (S_layers (cupv D 5) (hcode D W) (wsv D W) a))) := by
  refine Cl_of mb_X9_layers (Nat.le_of_ble_eq_true rfl) (sg_X9_layers_0 (cB C_isWalk (fun hy => yN ?_) (fun hy => nN ⟨_, rfl, Wh_no AF.refl (if_neg hy).symm rfl⟩)))
  refine Wp.loop (σ := Int) (fun k => [some (vr 4), some (vi a), some (vi k), none])
    (fun k μ => ∃ (E : DD) (V : Nat → Nat), μ = (E, rho n1 V) ∧ AF D W E V ∧ 0 ≤ k ∧ k ≤ 10 ∧ (S_layers (cupv D 5) (hcode D W) (wsv D W) a).1 = zfirst (fun k => decide (oSum (zOn (zSet (cupv D 5) 2 k) (hcode D W) (wsv D W a) 1) = 0)) (10 - k).toNat k)
    (fun k => (10 - k).toNat) ?_ 0 (D, rho n1 W) ⟨D, W, rfl, AF.refl, by decide, by decide, if_pos hy⟩
  rintro k μ ⟨E, V, rfl, hA, k0, k1, hv⟩ ih
  refine sg_X9_layers_11 ⟨fun c => ⟨_, rfl, Wh_no hA ?_ rfl⟩, fun c => ⟨rfl, cR (C_asItIs (hA.mp hm)) ?_⟩⟩
  · rw [hv, show (10 - k).toNat = 0 by omega]
    rfl
  · rintro b m1 ⟨rfl, G, U, rfl, hT⟩
    have hT := TRc.back hA hm hT.c
    rw [hA.cup] at hT
    refine ⟨rfl, rfl, rfl, bnd (N := 7) rfl (by decide) (by decide), fun m2 e2 => ?_⟩
    have hT2 : TRc D W (wr G 32 2 k) U (zSet (cupv D 5) 2 k) := hT.wr (by decide) (by decide) (by rw [cupv_set (by decide) (by decide), hT.2.1])
    have e2 : m2 = (wr G 32 2 k, rho n1 U) := e2
    subst e2
    generalize wr G 32 2 k = H at hT2
    obtain ⟨p1, p2, p3, p4⟩ := hT2.preA hm (COK_set hm.1 (Or.inl ⟨rfl, by omega, by omega⟩)) hy.1 hy.2
    rw [wref hT2.1 hy.1 hy.2]
    refine ⟨rfl, rfl, bnd (N := 4) rfl hy.1 (by omega), cI (C_keepsAll p1) ?_⟩
    rintro x m3 ⟨H2, rfl, h2, hx, -⟩
    rw [p2, p3, p4] at hx
    have hT3 := hT2.run h2
    rw [show (10 - k).toNat = (10 - (k + 1)).toNat + 1 by omega] at hv
    change _ = (if decide _ = true then k else zfirst _ (10 - (k + 1)).toNat (k + 1)) at hv
    refine ⟨fun c2 v e => ?_, fun c2 => ⟨_, rfl, Wh_no hT3.1 ?_ rfl⟩⟩
    · rw [w32_id (by omega) (by omega)] at e
      subst e
      refine ih (k + 1) _ ⟨H2, U, rfl, hT3.1, by omega, by omega, ?_⟩ (by omega)
      rw [hv, if_neg (fun z => by rw [hx, bi_1 (of_decide_eq_true z)] at c2; exact absurd c2 (by decide))]
    · rw [hv, if_pos (decide_eq_true (Decidable.byContradiction fun z => c2 (by rw [hx]; exact bi_0 z)))]
theorem C_lid {a much : Int} (hm : MP D W) : Cl (d + 7) 0 0 mX9_lid [vr 4, vi a, vi much] (D, rho n1 W) (KI (Wh n1 D W (S_lid (cupv D 5) (hcode D W) (wsv D W) a much))) := by
  refine Cl_of mb_X9_lid (Nat.le_of_ble_eq_true rfl) (sg_X9_lid_0 (cB C_isWalk (fun hy => yE (cB C_isIn (fun hz => yN ?_) (fun hz => nN ⟨_, rfl, Wh_no AF.refl (if_neg (fun q => hz q.2)).symm rfl⟩))) (fun hy => nE ⟨_, rfl, Wh_no AF.refl (if_neg (fun q => hy q.1)).symm rfl⟩)))
  refine Wp.loop (σ := Int) (fun k => [some (vr 4), some (vi a), some (vi much), some (vi k), none])
    (fun k μ => ∃ (E : DD) (V : Nat → Nat), μ = (E, rho n1 V) ∧ AF D W E V ∧ 0 ≤ k ∧ k ≤ 101 ∧ (S_lid (cupv D 5) (hcode D W) (wsv D W) a much).1 = zfirst (fun k => decide (oSum (zOn (zSet (cupv D 5) 4 k) (hcode D W) (wsv D W a) 1) ≤ much)) (101 - k).toNat k)
    (fun k => (101 - k).toNat) ?_ 0 (D, rho n1 W) ⟨D, W, rfl, AF.refl, by decide, by decide, if_pos ⟨hy, hz⟩⟩
  rintro k μ ⟨E, V, rfl, hA, k0, k1, hv⟩ ih
  refine sg_X9_lid_22 ⟨fun c => ⟨_, rfl, Wh_no hA ?_ rfl⟩, fun c => ⟨rfl, cR (C_asItIs (hA.mp hm)) ?_⟩⟩
  · rw [hv, show (101 - k).toNat = 0 by omega]
    rfl
  · rintro b m1 ⟨rfl, G, U, rfl, hT⟩
    have hT := TRc.back hA hm hT.c
    rw [hA.cup] at hT
    refine ⟨rfl, rfl, rfl, bnd (N := 7) rfl (by decide) (by decide), fun m2 e2 => ?_⟩
    have hT2 : TRc D W (wr G 32 4 k) U (zSet (cupv D 5) 4 k) := hT.wr (by decide) (by decide) (by rw [cupv_set (by decide) (by decide), hT.2.1])
    have e2 : m2 = (wr G 32 4 k, rho n1 U) := e2
    subst e2
    generalize wr G 32 4 k = H at hT2
    obtain ⟨p1, p2, p3, p4⟩ := hT2.preA hm (COK_set hm.1 (Or.inr (Or.inl ⟨rfl, by omega, by omega⟩))) hy.1 hy.2
    rw [wref hT2.1 hy.1 hy.2]
    refine ⟨rfl, rfl, bnd (N := 4) rfl hy.1 (by omega), cI (C_spiltOn p1) ?_⟩
    rintro x m3 ⟨H2, rfl, h2, -, hx⟩
    rw [p2, p3, p4] at hx
    have hT3 := hT2.run h2
    rw [show (101 - k).toNat = (101 - (k + 1)).toNat + 1 by omega] at hv
    change _ = (if decide _ = true then k else zfirst _ (101 - (k + 1)).toNat (k + 1)) at hv
    refine ⟨fun c2 v e => ?_, fun c2 => ⟨_, rfl, Wh_no hT3.1 ?_ rfl⟩⟩
    · rw [w32_id (by omega) (by omega)] at e
      subst e
      refine ih (k + 1) _ ⟨H2, U, rfl, hT3.1, by omega, by omega, ?_⟩ (by omega)
      rw [hv, if_neg (fun z => by have := of_decide_eq_true z; rw [hx] at c2; omega)]
    · rw [hv, if_pos (decide_eq_true (by rw [hx] at c2; omega))]
end PUB
