/-! ===== what the class's calls answer, 6: form, worst, stop ===== -/
theorem zall_le {c : Cv} {L : Option (List Int)} {ws : Int → Wv} {bits : Int} {n : Nat} (h : zall c L ws bits n = false) : ∀ k : Nat, zall c L ws bits (n + k) = false
  | 0 => h
  | k + 1 => by
    show (zall c L ws bits (n + k) && _) = false
    rw [zall_le h k]
    rfl
theorem zall_s {c : Cv} {L : Option (List Int)} {ws : Int → Wv} {bits i : Int} (h : 0 ≤ i) : zall c L ws bits (i + 1).toNat = (zall c L ws bits i.toNat && (decide (bAnd (bShr bits i) 1 = 0) || decide (oSum (zOn c L (ws i) 1) = 0))) := by
  rw [show (i + 1).toNat = i.toNat + 1 by omega]
  show (zall c L ws bits i.toNat && (decide (bAnd (bShr bits ((i.toNat : Nat) : Int)) 1 = 0) || decide (oSum (zOn c L (ws ((i.toNat : Nat) : Int)) 1) = 0))) = _
  rw [show ((i.toNat : Nat) : Int) = i by omega]
section PUB6
variable {d n1 : Nat} {W : Nat → Nat} {D : DD}
theorem C_form {bits : Int} (hm : MP D W) : Cl (d + 7) 0 0 mX9_form [vr 4, vi bits] (D, rho n1 W) (KI (Wh n1 D W (S_form (cupv D 5) (hcode D W) (wsv D W) bits))) := by
  refine Cl_of mb_X9_form (Nat.le_of_ble_eq_true rfl) (sg_X9_form_0 (cB C_isIn (fun hy => yN ?_) (fun hy => nN ⟨_, rfl, Wh_no AF.refl (if_neg hy).symm rfl⟩)))
  refine Wp.loop (σ := Int) (fun k => [some (vr 4), some (vi bits), some (vi k), none, none, none])
    (fun k μ => ∃ (E : DD) (V : Nat → Nat), μ = (E, rho n1 V) ∧ AF D W E V ∧ 2 ≤ k ∧ k ≤ 21 ∧ (S_form (cupv D 5) (hcode D W) (wsv D W) bits).1 = zfirst (fun k => zall (zform (cupv D 5) k) (hcode D W) (wsv D W) bits 4) (21 - k).toNat k)
    (fun k => (21 - k).toNat) ?_ 2 (D, rho n1 W) ⟨D, W, rfl, AF.refl, by decide, by decide, if_pos hy⟩
  rintro k μ ⟨E, V, rfl, hA, k0, k1, hv⟩ ih
  refine sg_X9_form_14 ⟨fun c => ⟨_, rfl, Wh_no hA ?_ rfl⟩, fun c => ⟨rfl, cR (C_asItIs (hA.mp hm)) ?_⟩⟩
  · rw [hv, show (21 - k).toNat = 0 by omega]
    rfl
  rintro b m1 ⟨rfl, G, U, rfl, hT⟩
  have hT := TRc.back hA hm hT.c
  rw [hA.cup] at hT
  refine ⟨rfl, rfl, fun m2 e2 => ?_⟩
  have e2 : m2 = (wr G 31 0 (k - 1), rho n1 U) := by
    rw [e2, w32_id (by omega) (by omega)]
    rfl
  subst e2
  refine cV (C_openAll (D := wr G 31 0 (k - 1)) (c := 31) cup31) ?_
  rintro m3 ⟨G2, rfl, f1, f2⟩
  have hT2 : TRc D W G2 U (zform (cupv D 5) k) := by
    refine ⟨⟨(hT.1.1.wr (by unfold aF; omega)).trans (f1.mono (fun q j h => by unfold aF; omega)), hT.1.2⟩, ?_, hT.2.2⟩
    rw [f2]
    have h1 : G 31 1 = D 5 1 := congrArg (fun q : Cv => q.2.1) hT.2.1
    have h2 : G 31 2 = D 5 2 := congrArg (fun q : Cv => q.2.2.1) hT.2.1
    have h3 : cut 7 (G 32) = cut 7 (D 6) := congrArg (fun q : Cv => q.2.2.2.1) hT.2.1
    unfold zOpen zform cupv cSet cRim cFill
    rw [wr_at, wr_j (by decide), wr_j (by decide), wr_o (by decide), h1, h2, h3]
  have hck := COK_form (k := k) hm.1 k0 (by omega)
  have hz : zfirst (fun k => zall (zform (cupv D 5) k) (hcode D W) (wsv D W) bits 4) (21 - k).toNat k = if zall (zform (cupv D 5) k) (hcode D W) (wsv D W) bits 4 = true then k else zfirst (fun k => zall (zform (cupv D 5) k) (hcode D W) (wsv D W) bits 4) (21 - (k + 1)).toNat (k + 1) := by
    rw [show (21 - k).toNat = (21 - (k + 1)).toNat + 1 by omega]
    rfl
  rw [hz] at hv
  have fin : ∀ (f i : Int) (H : DD), TRc D W H U (zform (cupv D 5) k) → (f = 1 ∧ zall (zform (cupv D 5) k) (hcode D W) (wsv D W) bits 4 = true ∨ f = 0 ∧ zall (zform (cupv D 5) k) (hcode D W) (wsv D W) bits 4 = false) → Wp (d + 7) 0 0 mX9_form 95 [some (vr 4), some (vi bits), some (vi k), some (vr 30), some (vi f), some (vi i)] [] (H, rho n1 U) (KI (Wh n1 D W (S_form (cupv D 5) (hcode D W) (wsv D W) bits))) := by
    intro f i H hH hf
    refine sg_X9_form_95 ⟨fun c2 v e => ?_, fun c2 => ⟨_, rfl, Wh_no hH.1 ?_ rfl⟩⟩
    · rw [w32_id (by omega) (by omega)] at e
      subst e
      refine ih (k + 1) _ ⟨H, U, rfl, hH.1, by omega, by omega, ?_⟩ (by omega)
      rcases hf with ⟨q, -⟩ | ⟨-, q⟩
      · rw [q] at c2
        exact absurd c2 (by decide)
      · rw [hv, q]
        rfl
    · rcases hf with ⟨-, q⟩ | ⟨q, -⟩
      · rw [hv, q]
        rfl
      · exact absurd q c2
  refine Wp.loop (σ := Int × Int) (fun z => [some (vr 4), some (vi bits), some (vi k), some (vr 30), some (vi z.1), some (vi z.2)])
    (fun z μ => ∃ H : DD, μ = (H, rho n1 U) ∧ TRc D W H U (zform (cupv D 5) k) ∧ 0 ≤ z.2 ∧ z.2 ≤ 4 ∧ (z.1 = 1 ∧ zall (zform (cupv D 5) k) (hcode D W) (wsv D W) bits z.2.toNat = true ∨ z.1 = 0 ∧ zall (zform (cupv D 5) k) (hcode D W) (wsv D W) bits z.2.toNat = false))
    (fun z => (4 - z.2).toNat) ?_ (1, 0) _ ⟨G2, rfl, hT2, by decide, by decide, Or.inl ⟨rfl, rfl⟩⟩
  rintro ⟨f, i⟩ μ ⟨H, rfl, hH, i0, i1, hf⟩ ih2
  dsimp only at i0 i1 hf ih2 ⊢
  refine sg_X9_form_48 ⟨fun c2 => fin f i H hH ?_, fun c2 => ⟨fun c3 => fin f i H hH ?_, fun c3 => ⟨fun c4 v e => ?_, fun c4 => ⟨rfl, rfl, bnd (N := 4) rfl i0 (by omega), rfl, ?_⟩⟩⟩⟩
  · rw [show i.toNat = 4 by omega] at hf
    exact hf
  · rcases hf with ⟨q, -⟩ | ⟨q, q2⟩
    · rw [q] at c3
      exact absurd c3 (by decide)
    · refine Or.inr ⟨q, ?_⟩
      have := zall_le q2 (4 - i.toNat)
      rwa [show i.toNat + (4 - i.toNat) = 4 by omega] at this
  · rw [w32_id (by omega) (by omega)] at e
    subst e
    rcases hf with ⟨q, q2⟩ | ⟨q, -⟩
    · refine ih2 (1, i + 1) _ ⟨H, rfl, hH, by dsimp only; omega, by dsimp only; omega, Or.inl ⟨rfl, ?_⟩⟩ (by dsimp only; omega)
      dsimp only
      rw [zall_s i0, q2, decide_eq_true c4]
      rfl
    · exact absurd q c3
  · have q2 : zall (zform (cupv D 5) k) (hcode D W) (wsv D W) bits i.toNat = true := by
      rcases hf with ⟨-, q2⟩ | ⟨q, -⟩
      · exact q2
      · exact absurd q c3
    obtain ⟨p1, p2, p3, p4⟩ := hH.preA hm hck i0 (by omega)
    rw [wref hH.1 i0 (by omega)]
    refine cI (C_keepsAll p1) ?_
    rintro r m4 ⟨H2, rfl, h2, hr, -⟩
    rw [p2, p3, p4] at hr
    have hH2 := hH.run h2
    refine ⟨fun c5 v e => ?_, fun c5 v e => ?_⟩
    · rw [w32_id (by omega) (by omega)] at e
      subst e
      refine ih2 (0, i + 1) _ ⟨H2, rfl, hH2, by dsimp only; omega, by dsimp only; omega, Or.inr ⟨rfl, ?_⟩⟩ (by dsimp only; omega)
      dsimp only
      rw [zall_s i0, q2, decide_eq_false c4, decide_eq_false (fun q => by rw [hr, bi_1 q] at c5; exact absurd c5 (by decide))]
      rfl
    · rw [w32_id (by omega) (by omega)] at e
      subst e
      refine ih2 (1, i + 1) _ ⟨H2, rfl, hH2, by dsimp only; omega, by dsimp only; omega, Or.inl ⟨rfl, ?_⟩⟩ (by dsimp only; omega)
      dsimp only
      rw [zall_s i0, q2, decide_eq_true (show oSum (zOn (zform (cupv D 5) k) (hcode D W) (wsv D W i) 1) = 0 from Decidable.byContradiction fun q => c5 (by rw [hr]; exact bi_0 q))]
      rw [Bool.or_true]
      rfl
end PUB6
/-! the spare WALK changes too -/
def AFs (D : DD) (W : Nat → Nat) (D' : DD) (W' : Nat → Nat) : Prop := Fr (fun q j => aF q j ∨ wF (W 4) q j) D D' ∧ (∀ i, i ≠ 9 → W' i = W i) ∧ 0 ≤ D' (W 4) 4 ∧ D' (W 4) 4 ≤ 1000
def MPi (W : Nat → Nat) : Prop := ∀ i, i < 4 → W i ≠ W 4
def Wh2 (n1 : Nat) (D : DD) (W : Nat → Nat) (S : Int × Option (List Int)) (r : Int) (m : Mem) : Prop := ∃ (D' : DD) (W' : Nat → Nat), m = (D', rho n1 W') ∧ Fr (fun q j => (aF q j ∨ wF (W 4) q j) ∨ tlF q j) D D' ∧ (∀ i, i ≠ 9 → W' i = W i) ∧ (0 ≤ D' (W 4) 4 ∧ D' (W 4) 4 ≤ 1000) ∧ r = S.1 ∧ TV D' = tvn S.2 (TV D)
section AFS
variable {D D' : DD} {W W' : Nat → Nat}
theorem AFs.refl (hm : MP D W) : AFs D W D W := ⟨Fr.refl, fun _ _ => rfl, (hm.2.2.2 4 (by decide)).1, (hm.2.2.2 4 (by decide)).2⟩
theorem AFs.cup (h : AFs D W D' W') (hm : MP D W) : cupv D' 5 = cupv D 5 := cupv_fr h.1 (fun q j a b => by
  have hw := hm.2.1 4 (by decide)
  unfold aF wF
  unfold walkId at hw
  omega)
theorem AFs.tl (h : AFs D W D' W') (hm : MP D W) {l : Int} : tlaw D' W' l = tlaw D W l := by
  have hw := hm.2.1 4 (by decide)
  unfold tlaw
  by_cases e : 0 ≤ l ∧ l ≤ 2
  · have hl := hm.2.2.1 (5 + l.toNat) (by omega) (by omega)
    rw [h.2.1 _ (by omega), h.1 (W (5 + l.toNat)) 2 (by unfold aF wF; unfold lawId at hl; unfold walkId at hw; omega)]
  · rw [if_neg (fun z => e z.1), if_neg (fun z => e z.1)]
theorem AFs.lw (h : AFs D W D' W') (hm : MP D W) {l : Nat} (hl : l = 0 ∨ lawId l) : lawO D' l = lawO D l := by
  have hw := hm.2.1 4 (by decide)
  rcases hl with e | e
  · unfold lawO
    rw [if_pos e, if_pos e]
  · exact lawO_fr h.1 (fun j => by unfold aF wF; unfold lawId at e; unfold walkId at hw; omega)
theorem AFs.hc (h : AFs D W D' W') (hm : MP D W) : hcode D' W' = hcode D W := by
  unfold hcode
  rw [h.cup hm, h.tl hm]
  exact h.lw hm (tlaw_id hm)
theorem AFs.mp (h : AFs D W D' W') (hm : MP D W) (hi' : MPi W) : MP D' W' := by
  have hw4 := hm.2.1 4 (by decide)
  refine ⟨by rw [h.cup hm]; exact hm.1, fun i hi => by rw [h.2.1 i (by omega)]; exact hm.2.1 i hi, fun i h0 h1 => by rw [h.2.1 i (by omega)]; exact hm.2.2.1 i h0 h1, fun i hi => ?_⟩
  have hw := hm.2.1 i hi
  rw [h.2.1 i (by omega)]
  by_cases e : i = 4
  · rw [e]
    exact h.2.2
  · have hne := hi' i (by omega)
    rw [h.1 (W i) 4 (by unfold aF wF; unfold walkId at hw hw4; omega)]
    exact hm.2.2.2 i hi
theorem AFs.tv (h : AFs D W D' W') (hm : MP D W) : TV D' = TV D := by
  have hw := hm.2.1 4 (by decide)
  unfold TV toldv
  rw [h.1.obj (o := 98) (fun j => by unfold aF wF; unfold walkId at hw; omega), h.1 4 16 (by unfold aF wF; unfold walkId at hw; omega)]
/-- the spare WALK told anew, then a run -/
theorem AFs.step {E G : DD} {U : Nat → Nat} (h : AFs D W D' W') (hm : MP D W) (h1 : Fr (wF (W 4)) D' E) (h2 : AF E W' G U) (t0 : 0 ≤ E (W 4) 4) (t1 : E (W 4) 4 ≤ 1000) : AFs D W G U := by
  have hw := hm.2.1 4 (by decide)
  refine ⟨(h.1.trans (h1.mono (fun _ _ z => Or.inr z))).trans (h2.1.mono (fun _ _ z => Or.inl z)), fun i hi => (h2.2 i hi).trans (h.2.1 i hi), ?_⟩
  rw [h2.1 (W 4) 4 (by unfold aF; unfold walkId at hw; omega)]
  exact ⟨t0, t1⟩
theorem AFs.spare {E : DD} (h : AFs D W D' W') (hm : MP D W) (h1 : Fr (wF (W 4)) D' E) (t0 : 0 ≤ E (W 4) 4) (t1 : E (W 4) 4 ≤ 1000) : AFs D W E W' := h.step hm h1 AF.refl t0 t1
end AFS
/-- the greatest, of equal ones the first -/
def zmx (f ix : Nat → Int) : Nat → Int × Int
  | 0 => (-1, -1)
  | n + 1 => if (zmx f ix n).2 < f n then (ix n, f n) else zmx f ix n
def zworst (c : Cv) (L : Option (List Int)) (push : Int) : Int × Int := zmx (fun k => oGsl (zOn (zSet c 4 100) L (wSteps' w0 0 push (k + 2) 0 20) 1)) (fun k => k + 2) 39
def S_worst (c : Cv) (L : Option (List Int)) (push : Int) : Int × Option (List Int) := if 1 ≤ push ∧ push ≤ 200 then ((zworst c L push).1, some [(zworst c L push).2]) else (-1, none)
def zstop (c : Cv) (speed : Int) : Nat → Int → Int × Option (List Int)
  | 0, _ => (-2, none)
  | k + 1, n => if w32 ((w32 (w32 (speed + n) - 1)).tdiv n) ≤ 500 ∧ oSum (zOn c none (wBrake speed n) 1) = 0 then (n, some [oHigh (zOn c none (wBrake speed n) 1)]) else zstop c speed k (n + 1)
def S_stop (c : Cv) (speed : Int) : Int × Option (List Int) := if 1 ≤ speed ∧ speed ≤ 5000 then zstop c speed 200 1 else (-1, none)
section PUB7
variable {d n1 : Nat} {W : Nat → Nat} {D : DD}
theorem Wh2_no {D' : DD} {W' : Nat → Nat} {S : Int × Option (List Int)} {x : Int} (hm : MP D W) (h : AFs D W D' W') (hx : x = S.1) (hs : S.2 = none) : Wh2 n1 D W S x (D', rho n1 W') :=
  ⟨D', W', rfl, h.1.mono (fun _ _ z => Or.inl z), h.2.1, h.2.2, hx, by rw [hs, h.tv hm]; rfl⟩
theorem Wh2_tell {E D' : DD} {V : Nat → Nat} {S : Int × Option (List Int)} {x k : Int} {l : List Int} (hm : MP D W) (h : AFs D W E V) (hF : Fr tlF E D') (hk : D' 4 16 = k) (hl : toldv D' = l) (hx : x = S.1) (hs : S.2 = some l) (hn : k = l.length) : Wh2 n1 D W S x (D', rho n1 V) := by
  have hw := hm.2.1 4 (by decide)
  refine ⟨D', V, rfl, (h.1.mono (fun _ _ z => Or.inl z)).trans (hF.mono (fun _ _ z => Or.inr z)), h.2.1, ?_, hx, by rw [hs]; show (toldv D', D' 4 16) = (l, (l.length : Int)); rw [hl, hk, hn]⟩
  rw [hF (W 4) 4 (by unfold tlF; unfold walkId at hw; omega)]
  exact h.2.2
theorem C_worst {push : Int} (hm : MP D W) (hi : MPi W) : Cl (d + 7) 0 0 mX9_worst [vr 4, vi push] (D, rho n1 W) (KI (Wh2 n1 D W (S_worst (cupv D 5) (hcode D W) push))) := by
  have hw4 := hm.2.1 4 (by decide)
  have sw := fun V => sWk_of (n1 := n1) (W := V) hw4
  refine Cl_of mb_X9_worst (Nat.le_of_ble_eq_true rfl) (sg_X9_worst_0 (cB C_isIn (fun hy => yN ?_) (fun hy => nN ⟨_, rfl, Wh2_no hm (AFs.refl hm) ?_ ?_⟩)))
  rotate_left
  · unfold S_worst
    rw [if_neg hy]
  · unfold S_worst
    rw [if_neg hy]
  refine Wp.loop (σ := Int × Int × Int) (fun z => [some (vr 4), some (vi push), some (vi z.1), some (vi z.2.1), some (vi z.2.2), none])
    (fun z μ => ∃ (E : DD) (V : Nat → Nat), μ = (E, rho n1 V) ∧ AFs D W E V ∧ 2 ≤ z.2.2 ∧ z.2.2 ≤ 41 ∧ (z.1, z.2.1) = zmx (fun k => oGsl (zOn (zSet (cupv D 5) 4 100) (hcode D W) (wSteps' w0 0 push (k + 2) 0 20) 1)) (fun k => k + 2) (z.2.2 - 2).toNat)
    (fun z => (41 - z.2.2).toNat) ?_ (-1, -1, 2) _ ⟨D, W, rfl, AFs.refl hm, by decide, by decide, rfl⟩
  rintro ⟨b, g, n⟩ μ ⟨E, V, rfl, hA, k0, k1, hv⟩ ih
  dsimp only at k0 k1 hv ih ⊢
  have eW : ∀ {X : DD} {V : Nat → Nat}, V 4 = W 4 → mR (X, rho n1 V) 4 7 = W 4 := fun h => h
  refine sg_X9_worst_20 ⟨fun c => ⟨rfl, cV C_tell1 ?_⟩, fun c => ⟨rfl, ?_⟩⟩
  · rintro m ⟨E4, rfl, g1, g2, g3⟩
    have e : (b, g) = zworst (cupv D 5) (hcode D W) push := by rw [hv, show (n - 2).toNat = 39 by omega]; rfl
    refine ⟨_, rfl, Wh2_tell hm hA g1 g2 g3 ?_ ?_ rfl⟩ <;> unfold S_worst <;> rw [if_pos hy, ← e]
  rw [eW (hA.2.1 4 (by decide))]
  refine ⟨(sw V).1, cV (C_wclear (D := E) (sw V)) ?_⟩
  rintro m1 ⟨E1, rfl, a1, a2, a3⟩
  rw [eW (hA.2.1 4 (by decide))]
  have t4 : E1 (W 4) 4 = 0 := congrArg (fun q : Wv => q.1) a2
  have t5 : E1 (W 4) 5 = 0 := congrArg (fun q : Wv => q.2.1) a2
  refine ⟨rfl, (sw V).1, cV (C_addSteps (D := E1) (w := W 4) (n := n) (times := 20) (sw V) (by omega) (by omega) (by omega) (by decide) (by omega) (by omega) (by omega) (by decide)) ?_⟩
  rintro m2 ⟨E2, rfl, b1, b2, b3⟩
  rw [a2, a3] at b2
  have hwk : wkv E2 (W 4) = wSteps' w0 0 push n 0 20 := b2
  have u4 : E2 (W 4) 4 = 0 + n * 20 := congrArg (fun q : Wv => q.1) hwk
  have hA2 : AFs D W E2 V := hA.spare hm (a1.trans b1) (by omega) (by omega)
  have hm2 := hA2.mp hm hi
  refine ⟨rfl, cR (C_asItIs hm2) ?_⟩
  rintro b9 m3 ⟨rfl, G, U, rfl, hT⟩
  have hT := hT.c
  refine ⟨rfl, rfl, rfl, bnd (N := 7) rfl (by decide) (by decide), fun m5 e5 => ?_⟩
  have hT2 : TRc E2 V (wr G 32 4 100) U (zSet (cupv E2 5) 4 100) := hT.wr (by decide) (by decide) (by rw [cupv_set (by decide) (by decide), hT.2.1])
  have e5 : m5 = (wr G 32 4 100, rho n1 U) := e5
  subst e5
  generalize wr G 32 4 100 = H at hT2
  obtain ⟨p1, p2, p3, p4⟩ := hT2.pre hm2 (COK_set hm2.1 (Or.inr (Or.inl ⟨rfl, by decide, by decide⟩))) (i := 4) (by decide)
  have v4 : V 4 = W 4 := hA.2.1 4 (by decide)
  rw [v4] at p1 p4
  rw [eW ((hT2.1.2 4 (by decide)).trans v4)]
  refine ⟨rfl, cI (C_spiltOn p1) ?_⟩
  rintro x m6 ⟨H2, rfl, h2, ho, -⟩
  rw [p2, p3, p4, hA2.cup hm, hA2.hc hm, hwk] at ho
  obtain ⟨q1, q2, q3, q4, q5⟩ := trv_sum ho
  have hA3 : AFs D W H2 U := hA2.step hm Fr.refl (hT2.run h2).1 (by omega) (by omega)
  have hs : zmx (fun k => oGsl (zOn (zSet (cupv D 5) 4 100) (hcode D W) (wSteps' w0 0 push (k + 2) 0 20) 1)) (fun k => k + 2) (n + 1 - 2).toNat = if g < H2 30 7 then (n, H2 30 7) else (b, g) := by
    rw [show (n + 1 - 2).toNat = (n - 2).toNat + 1 by omega, q4]
    show (if (zmx _ _ (n - 2).toNat).2 < oGsl (zOn _ _ (wSteps' w0 0 push ((((n - 2).toNat : Nat) : Int) + 2) 0 20) 1) then ((((n - 2).toNat : Nat) : Int) + 2, oGsl (zOn _ _ (wSteps' w0 0 push ((((n - 2).toNat : Nat) : Int) + 2) 0 20) 1)) else zmx _ _ (n - 2).toNat) = _
    rw [← hv, show (((n - 2).toNat : Nat) : Int) + 2 = n by omega]
  refine ⟨rfl, fun c2 v e => ?_, fun c2 v2 e2 v e => ?_⟩
  · rw [w32_id (by omega) (by omega)] at e
    subst e
    change H2 30 7 ≤ g at c2
    refine ih (b, g, n + 1) _ ⟨H2, U, rfl, hA3, by dsimp only; omega, by dsimp only; omega, ?_⟩ (by dsimp only; omega)
    dsimp only
    rw [hs, if_neg (by omega)]
  · rw [w32_id (by omega) (by omega)] at e
    subst e e2
    change ¬ H2 30 7 ≤ g at c2
    refine ih (n, H2 30 7, n + 1) _ ⟨H2, U, rfl, hA3, by dsimp only; omega, by dsimp only; omega, ?_⟩ (by dsimp only; omega)
    dsimp only
    rw [hs, if_pos (by omega)]
theorem C_stop {speed : Int} (hm : MP D W) (hi : MPi W) : Cl (d + 7) 0 0 mX9_stop [vr 4, vi speed] (D, rho n1 W) (KI (Wh2 n1 D W (S_stop (cupv D 5) speed))) := by
  have hw4 := hm.2.1 4 (by decide)
  refine Cl_of mb_X9_stop (Nat.le_of_ble_eq_true rfl) (sg_X9_stop_0 (cB C_isIn (fun hy => yN ?_) (fun hy => nN ⟨_, rfl, Wh2_no hm (AFs.refl hm) ?_ ?_⟩)))
  rotate_left
  · unfold S_stop
    rw [if_neg hy]
  · unfold S_stop
    rw [if_neg hy]
  have hS : S_stop (cupv D 5) speed = zstop (cupv D 5) speed 200 1 := if_pos hy
  generalize S_stop (cupv D 5) speed = S at hS ⊢
  refine Wp.loop (σ := Int) (fun n => [some (vr 4), some (vi speed), some (vi n), none])
    (fun n μ => ∃ (E : DD) (V : Nat → Nat), μ = (E, rho n1 V) ∧ AFs D W E V ∧ 1 ≤ n ∧ n ≤ 201 ∧ S = zstop (cupv D 5) speed (201 - n).toNat n)
    (fun n => (201 - n).toNat) ?_ 1 _ ⟨D, W, rfl, AFs.refl hm, by decide, by decide, hS⟩
  rintro n μ ⟨E, V, rfl, hA, k0, k1, hv⟩ ih
  have v4 : V 4 = W 4 := hA.2.1 4 (by decide)
  refine sg_X9_stop_15 ⟨fun c => ⟨_, rfl, Wh2_no hm hA ?_ ?_⟩, fun c => ⟨by omega, fun c2 => ⟨rfl, cV (C_brake (D := E) (W := V) (by rw [v4]; exact hw4) k0 (by omega)) ?_⟩, fun c2 v e => ?_⟩⟩
  · rw [hv, show (201 - n).toNat = 0 by omega]
    rfl
  · rw [hv, show (201 - n).toNat = 0 by omega]
    rfl
  · rintro m1 ⟨E2, rfl, a1, a2⟩
    rw [v4] at a1 a2
    have u4 : E2 (W 4) 4 = 0 + (n + 100) := congrArg (fun q : Wv => q.1) a2
    have hA2 : AFs D W E2 V := hA.spare hm a1 (by omega) (by omega)
    have hm2 := hA2.mp hm hi
    refine ⟨rfl, cR (C_asItIs hm2) ?_⟩
    rintro b9 m3 ⟨rfl, G, U, rfl, hT⟩
    refine ⟨rfl, fun m3 e3 => ?_⟩
    have e3 : m3 = (G, rho n1 (uW U 9 0)) := e3.trans sR_30
    subst e3
    have hT2 : TRl E2 V G (uW U 9 0) (cupv E2 5) 0 := hT.c.law
    have w4 : (uW U 9 0) 4 = W 4 := (hT2.1.2 4 (by decide)).trans v4
    obtain ⟨z1, z2, z3⟩ := hT2.1.walk hm2 (i := 4) (by decide)
    rw [v4] at z2 z3
    have p1 : TPre G (uW U 9 0) (W 4) := ⟨by rw [hT2.2.1]; exact hm2.1, Or.inl hT2.2.2, hw4, by rw [z3]; omega, by rw [z3]; omega⟩
    have p3 : lawO G (uW U 9 0 9) = none := by
      rw [hT2.2.2]
      rfl
    rw [show mR (G, rho n1 (uW U 9 0)) 4 7 = W 4 from w4]
    refine ⟨rfl, rfl, cI (C_keepsAll p1) ?_⟩
    rintro x m4 ⟨H2, rfl, h2, hx, ho⟩
    rw [hT2.2.1, hA2.cup hm, p3, z2, a2] at hx ho
    have hA3 : AFs D W H2 (uW U 9 0) := hA2.step hm Fr.refl (hT2.run h2).1 (by omega) (by omega)
    refine ⟨fun c3 v e => ?_, fun c3 => ⟨rfl, rfl, cV C_tell1 ?_⟩⟩
    · rw [w32_id (by omega) (by omega)] at e
      subst e
      refine ih (n + 1) _ ⟨H2, _, rfl, hA3, by omega, by omega, ?_⟩ (by omega)
      rw [hv, show (201 - n).toNat = (201 - (n + 1)).toNat + 1 by omega]
      exact if_neg (fun q => by rw [hx, bi_1 q.2] at c3; exact absurd c3 (by decide))
    · rintro m5 ⟨H3, rfl, g1, g2, g3⟩
      have hq : oSum (zOn (cupv D 5) none (wBrake speed n) 1) = 0 := Decidable.byContradiction fun q => c3 (by rw [hx]; exact bi_0 q)
      obtain ⟨q1, q2, q3, q4, q5⟩ := trv_sum (ho hq)
      have hz : S = (n, some [oHigh (zOn (cupv D 5) none (wBrake speed n) 1)]) := by
        rw [hv, show (201 - n).toNat = (201 - (n + 1)).toNat + 1 by omega]
        exact if_pos ⟨c2, hq⟩
      refine ⟨_, rfl, Wh2_tell hm hA3 g1 g2 g3 ?_ ?_ rfl⟩ <;> rw [hz]
      show some _ = some [H2 30 6]
      rw [q3]
  · rw [w32_id (by omega) (by omega)] at e
    subst e
    refine ih (n + 1) _ ⟨E, V, rfl, hA, by omega, by omega, ?_⟩ (by omega)
    rw [hv, show (201 - n).toNat = (201 - (n + 1)).toNat + 1 by omega]
    exact if_neg (fun q => c2 q.1)
end PUB7
