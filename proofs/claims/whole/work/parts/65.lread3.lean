/-! ===== a LAW, read by the class: things, products, sums ===== -/
section LRD2
variable {d n1 l : Nat} {W : Nat → Nat} {D : DD} {t : Int → Int} {en : Int} {p : Ps} {cd : List Int}
theorem LwR.sub {cd' : List Int} (h : LwR D l t en (p, cd)) (e : p.2 = -1 → cd = cd') : LwR D l t en (p, cd') := ⟨h.1, h.2.1, fun z => (h.2.2 z).trans (e z)⟩
theorem C_readThing {f : Ps → Ls} {can : Bool} {dp : Int} {N : Nat} (hl : lawId l) (h40 : en ≤ 40) (hd0 : 0 ≤ dp) (hd4 : dp ≤ 4) (hcan : can = true ↔ ¬ 4 ≤ dp) (hcon : can = true → Lcon en f) (hS : can = true → LOK mX2_readSum n1 l W t en f [vi (dp + 1)] (N + 3)) :
    LOK mX2_readThing n1 l W t en (lthing t en f can) [vi dp] (N + 4) := by
  intro D p cd hg hlen h
  have sl := (sLaw_of (n1 := n1) (W := W) hl).1
  have hT : TxR D t en p := h.1
  have hp := hT.at hg
  refine Cl_of mb_X2_readThing (Nat.le_of_ble_eq_true rfl) (sg_X2_readThing_0 ?_)
  have s37 : ∀ (E : DD) (i : Int), Fr tF D E → TxR E t en (lnegs t en 40 p false).1 → Wp (N + 4) 0 0 mX2_readThing 37 [some (vr l), some (vr 17), some (vi dp), some (vi (if (lnegs t en 40 p false).2 = true then 1 else 0)), some (vi i)] [] (E, rho n1 W) (KV (fun m => ∃ D', m = (D', rho n1 W) ∧ Fr (lwF l) D D' ∧ LwR D' l t en ((lthing t en f can p).1, cd ++ (lthing t en f can p).2))) := by
    obtain ⟨i1, i2, i3⟩ := lnegs_con (t := t) (n := 40) (p := p) (b := false) hg hp.1 hp.2
    intro E i hE T
    unfold lthing
    generalize (lnegs t en 40 p false).2 = b at i3 ⊢
    generalize (lnegs t en 40 p false).1 = q at i1 i2 i3 T ⊢
    have hq0 : p.1 ≤ q.1 := by split at i3 <;> omega
    have hE0 : LwR E l t en (q, cd) := h.tx (p' := q) hl hE T (fun _ => hg)
    have s95 : ∀ G : DD, Fr (lwF l) D G → LwR G l t en ((lcore t en f can q).1, cd ++ (lcore t en f can q).2) → Wp (N + 4) 0 0 mX2_readThing 95 [some (vr l), some (vr 17), some (vi dp), some (vi (if b = true then 1 else 0)), some (vi i)] [] (G, rho n1 W) (KV (fun m => ∃ D', m = (D', rho n1 W) ∧ Fr (lwF l) D D' ∧ LwR D' l t en ((lneg b (lcore t en f can q)).1, cd ++ (lneg b (lcore t en f can q)).2))) := by
      intro G hG R
      refine sg_X2_readThing_95 ⟨fun c => ⟨rfl, G, rfl, hG, ?_⟩, fun c => ⟨sl, cV (C_emit (p := (lcore t en f can q).1) hl R (fun z => ?_)) ?_⟩⟩
      · by_cases hb : b = true
        · rw [if_pos hb] at c
          omega
        · unfold lneg
          rw [if_neg hb]
          exact R
      · have j := lcore_con hcon q i1 (by omega) i2 z
        rw [List.length_append]
        by_cases hb : b = true
        · rw [if_neg (by rw [hb]; decide)] at i3
          omega
        · rw [if_neg hb] at c
          omega
      · rintro m ⟨H, rfl, k1, k2⟩
        refine ⟨rfl, H, rfl, hG.trans k1, ?_⟩
        by_cases hb : b = true
        · unfold lneg
          rw [if_pos hb]
          show LwR H l t en ((lcore t en f can q).1, cd ++ ((lcore t en f can q).2 ++ [-5]))
          rw [← List.append_assoc]
          exact k2
        · rw [if_neg hb] at c
          omega
    have ea : E 17 2 = q.1 := T.2.2.2.1 i1
    have s90 : ¬ (48 ≤ pk t en q.1 ∧ pk t en q.1 ≤ 57) → ¬ (can = true ∧ pk t en q.1 = 40) → ∀ G : DD, Fr tF D G → LwR G l t en (q, cd) → Wp (N + 4) 0 0 mX2_readThing 90 [some (vr l), some (vr 17), some (vi dp), some (vi (if b = true then 1 else 0)), some (vi i)] [] (G, rho n1 W) (KV (fun m => ∃ D', m = (D', rho n1 W) ∧ Fr (lwF l) D D' ∧ LwR D' l t en ((lneg b (lcore t en f can q)).1, cd ++ (lneg b (lcore t en f can q)).2))) := by
      intro c1 c2 G hG R
      refine sg_X2_readThing_90 ⟨sl, cV (C_readName (d := N) hl h40 G q cd i1 (by omega) R) ?_⟩
      rintro m ⟨H, rfl, k1, k2⟩
      refine s95 H ((lwF_t hG).trans k1) ?_
      unfold lcore
      rw [if_neg c1, if_neg c2]
      exact k2
    refine sg_X2_readThing_37 ⟨rfl, cB (C_isAtDigit T) (fun hx => ?_) (fun hx => ?_)⟩
    · rw [ea] at hx
      have hlt := pkc_lt (c := pk t en q.1) rfl (by omega)
      refine yE ⟨rfl, cI (C_number T) ?_⟩
      rintro x3 m ⟨G, rfl, f1, T1, q1, b1⟩
      refine ⟨sl, cV (C_emit (p := znumP t en 0 999 q) hl (hE0.tx (p' := znumP t en 0 999 q) hl f1 T1 (fun z => (q1 z).2.1)) (fun _ => by omega)) ?_⟩
      rintro m ⟨H, rfl, k1, k2⟩
      refine s95 H ((lwF_t (hE.trans f1)).trans k1) ?_
      unfold lcore
      rw [if_pos hx]
      exact k2.sub (fun z => by rw [(q1 z).1])
    · rw [ea] at hx
      refine nE ⟨fun c4 => s90 hx (fun z => hcan.mp z.1 c4) E hE hE0, fun c4 => ⟨rfl, cI (C_skip (by decide) T) ?_⟩⟩
      rintro x2 m ⟨G, rfl, f1, T1, q1, -⟩
      have q1 := hskip i1 q1
      subst q1
      have w1 : w32 (dp + 1) = dp + 1 := w32_id (by omega) (by omega)
      by_cases e : pk t en q.1 = 40
      · rw [if_pos e]
        rw [(zskipP_y i1 e).2] at T1
        have hlt := pkc_lt e (by decide)
        rw [w1]
        refine yE ⟨sl, cV (hS (hcan.mpr c4) G (q.1 + 1, -1) cd rfl (by dsimp only; omega) (hE0.tx (p' := (q.1 + 1, -1)) hl f1 T1 (fun _ => i1))) ?_⟩
        rintro m ⟨H, rfl, k1, k2⟩
        refine ⟨rfl, cV (C_need (by decide) k2.1) ?_⟩
        rintro m ⟨K, rfl, g1, g2⟩
        refine s95 K (((lwF_t (hE.trans f1)).trans k1).trans (lwF_t g1)) ?_
        unfold lcore
        rw [if_neg hx, if_pos ⟨hcan.mpr c4, e⟩]
        exact k2.tx (p' := zneed t en 41 (f (q.1 + 1, -1)).1) hl g1 g2 (fun z => zneed_g z)
      · rw [if_neg e]
        rw [(zskipP_n (fun z => e z.2)).2] at T1
        exact nE (s90 hx (fun z => e z.2) G (hE.trans f1) (hE0.tx (p' := q) hl f1 T1 (fun _ => i1)))
  refine Wp.loop (σ := Int × Int) (fun z => [some (vr l), some (vr 17), some (vi dp), some (vi z.1), some (vi z.2)])
    (fun z μ => ∃ (E : DD) (q : Ps) (b : Bool), μ = (E, rho n1 W) ∧ Fr tF D E ∧ q.2 = -1 ∧ TxR E t en q ∧ z.1 = (if b = true then 1 else 0) ∧ 0 ≤ z.2 ∧ z.2 ≤ 40 ∧ lnegs t en (40 - z.2).toNat q b = lnegs t en 40 p false)
    (fun z => (40 - z.2).toNat) ?_ (0, 0) _ ⟨D, p, false, rfl, Fr.refl, hg, hT, rfl, by decide, by decide, rfl⟩
  rintro ⟨a, i⟩ μ ⟨E, q, b, rfl, hE, hq, T, ha, i0, i1, hz⟩ ih
  dsimp only at ha i0 i1 hz ih ⊢
  refine sg_X2_readThing_5 ⟨fun c => ?_, fun c => ⟨rfl, cI (C_skip (by decide) T) ?_⟩⟩
  · rw [show (40 - i).toNat = 0 by omega] at hz
    have hz : (q, b) = lnegs t en 40 p false := hz
    have := s37 E i hE (by rw [← hz]; exact T)
    rw [← hz] at this
    rw [ha]
    exact this
  · rintro x1 m ⟨G, rfl, f1, T1, q1, -⟩
    have q1 := hskip hq q1
    subst q1
    rw [show (40 - i).toNat = (40 - (i + 1)).toNat + 1 by omega] at hz
    have hz : (if zskip t en 45 q = true then lnegs t en (40 - (i + 1)).toNat (q.1 + 1, -1) (!b) else (q, b)) = lnegs t en 40 p false := hz
    by_cases e : pk t en q.1 = 45
    · rw [if_pos e]
      rw [if_pos (zskipP_y hq e).1] at hz
      rw [(zskipP_y hq e).2] at T1
      have go : ∀ a', a' = (if (!b) = true then 1 else 0) → ∀ v, v = w32 (i + 1) → Wp (N + 4) 0 0 mX2_readThing 5 [some (vr l), some (vr 17), some (vi dp), some (vi a'), some (vi v)] [] (G, rho n1 W) (KV (fun m => ∃ D', m = (D', rho n1 W) ∧ Fr (lwF l) D D' ∧ LwR D' l t en ((lthing t en f can p).1, cd ++ (lthing t en f can p).2))) := by
        rintro a' ha' v rfl
        rw [w32_id (by omega) (by omega)]
        exact ih (a', i + 1) _ ⟨G, (q.1 + 1, -1), !b, rfl, hE.trans f1, rfl, T1, ha', by dsimp only; omega, by dsimp only; omega, hz⟩ (by dsimp only; omega)
      refine yE ⟨fun c1 v hv => go 0 ?_ v hv, fun c1 v hv => go 1 ?_ v hv⟩
      · cases b
        · rw [if_neg (by decide)] at ha
          omega
        · rfl
      · cases b
        · rfl
        · rw [if_pos rfl] at ha
          omega
    · rw [if_neg e]
      rw [if_neg (zskipP_n (fun z => e z.2)).1] at hz
      rw [(zskipP_n (fun z => e z.2)).2] at T1
      have := s37 G i (hE.trans f1) (by rw [← hz]; exact T1)
      rw [← hz] at this
      rw [ha]
      exact nE this
theorem C_readProduct {g : Ps → Ls} {dp : Int} {N : Nat} (hl : lawId l) (h40 : en ≤ 40) (hcon : Lcon en g) (hS : LOK mX2_readThing n1 l W t en g [vi dp] (N + 3)) :
    LOK mX2_readProduct n1 l W t en (lprod t en g) [vi dp] (N + 4) := by
  intro D p cd hg hlen h
  have sl := (sLaw_of (n1 := n1) (W := W) hl).1
  have hT : TxR D t en p := h.1
  have hp := hT.at hg
  refine Cl_of mb_X2_readProduct (Nat.le_of_ble_eq_true rfl) (sg_X2_readProduct_0 ⟨sl, cV (hS D p cd hg hlen h) ?_⟩)
  rintro m ⟨G0, rfl, f0, R0⟩
  refine Wp.loop (σ := Int) (fun i => [some (vr l), some (vr 17), some (vi dp), some (vi i)])
    (fun i μ => ∃ (E : DD) (x : Ls), μ = (E, rho n1 W) ∧ Fr (lwF l) D E ∧ LwR E l t en (x.1, cd ++ x.2) ∧ (x.1.2 = -1 → p.1 + (x.2.length : Int) ≤ x.1.1 ∧ x.1.1 ≤ en) ∧ 0 ≤ i ∧ i ≤ 40 ∧ lmore t en 42 (-3) 47 (-4) g (40 - i).toNat x = lprod t en g p)
    (fun i => (40 - i).toNat) ?_ 0 _ ⟨G0, g p, rfl, f0, R0, fun z => hcon p hg hp.1 hp.2 z, by decide, by decide, rfl⟩
  rintro i μ ⟨E, ⟨q, cs⟩, rfl, hE, R, hx, i0, i1, hz⟩ ih
  have T : TxR E t en q := R.1
  have R : LwR E l t en (q, cd ++ cs) := R
  have hx : q.2 = -1 → p.1 + (cs.length : Int) ≤ q.1 ∧ q.1 ≤ en := hx
  refine sg_X2_readProduct_8 ⟨fun c => ⟨rfl, E, rfl, hE, ?_⟩, fun c => ⟨rfl, cB (C_isGood T) (fun hq => yE ⟨rfl, cI (C_skip (by decide) T) ?_⟩) (fun hq => nE ⟨rfl, E, rfl, hE, ?_⟩)⟩⟩
  · rw [show (40 - i).toNat = 0 by omega] at hz
    rw [← hz]
    exact R
  · rw [show (40 - i).toNat = (40 - (i + 1)).toNat + 1 by omega] at hz
    have hz : (if zskip t en 42 q = true then lmore t en 42 (-3) 47 (-4) g (40 - (i + 1)).toNat ((g (q.1 + 1, -1)).1, (cs ++ (g (q.1 + 1, -1)).2) ++ [-3])
      else if zskip t en 47 q = true then lmore t en 42 (-3) 47 (-4) g (40 - (i + 1)).toNat ((g (q.1 + 1, -1)).1, (cs ++ (g (q.1 + 1, -1)).2) ++ [-4]) else (q, cs)) = lprod t en g p := hz
    obtain ⟨hx1, hx2⟩ := hx hq
    have go : ∀ (c0 e0 : Int) (G : DD), 0 ≤ c0 → pk t en q.1 = c0 → Fr tF E G → TxR G t en (q.1 + 1, -1) →
        lmore t en 42 (-3) 47 (-4) g (40 - (i + 1)).toNat ((g (q.1 + 1, -1)).1, (cs ++ (g (q.1 + 1, -1)).2) ++ [e0]) = lprod t en g p →
        ∃ (K : Mem → Prop), Cl (N + 3) 0 0 mX2_readThing [vr l, vr 17, vi dp] (G, rho n1 W) (KV K) ∧ ∀ m, K m → ∃ H, m = (H, rho n1 W) ∧
          Cl (N + 3) 0 0 mX2_emit [vr l, vi e0] (H, rho n1 W) (KV (fun m => ∀ v, v = w32 (i + 1) → Wp (N + 4) 0 0 mX2_readProduct 8 [some (vr l), some (vr 17), some (vi dp), some (vi v)] [] m (KV (fun m => ∃ D', m = (D', rho n1 W) ∧ Fr (lwF l) D D' ∧ LwR D' l t en ((lprod t en g p).1, cd ++ (lprod t en g p).2))))) := by
      intro c0 e0 G hc he f1 T1 hzz
      have hlt := pkc_lt he hc
      refine ⟨_, hS G (q.1 + 1, -1) (cd ++ cs) rfl (by rw [List.length_append]; show ((_ + _ : Nat) : Int) ≤ q.1 + 1; omega) (R.tx (p' := (q.1 + 1, -1)) hl f1 T1 (fun _ => hq)), ?_⟩
      rintro m ⟨H, rfl, k1, k2⟩
      have con := hcon (q.1 + 1, -1) rfl (by dsimp only; omega) (by dsimp only; omega)
      refine ⟨H, rfl, (C_emit (p := (g (q.1 + 1, -1)).1) hl k2 (fun z => ?_)).weak (KV.weak ?_)⟩
      · have c1 : q.1 + 1 + ((g (q.1 + 1, -1)).2.length : Int) ≤ (g (q.1 + 1, -1)).1.1 := (con z).1
        have c2 := (con z).2
        rw [List.length_append, List.length_append]
        omega
      · rintro m ⟨K, rfl, j1, j2⟩ v rfl
        rw [w32_id (by omega) (by omega)]
        refine ih (i + 1) _ ⟨K, ((g (q.1 + 1, -1)).1, (cs ++ (g (q.1 + 1, -1)).2) ++ [e0]), rfl, ((hE.trans (lwF_t f1)).trans k1).trans j1, ?_, fun z => ?_, by omega, by omega, hzz⟩ (by omega)
        · refine j2.sub (fun _ => ?_)
          rw [List.append_assoc, List.append_assoc, List.append_assoc]
        · have z : (g (q.1 + 1, -1)).1.2 = -1 := z
          have c1 : q.1 + 1 + ((g (q.1 + 1, -1)).2.length : Int) ≤ (g (q.1 + 1, -1)).1.1 := (con z).1
          refine ⟨?_, (con z).2⟩
          rw [List.length_append, List.length_append]
          show p.1 + ((cs.length + (g (q.1 + 1, -1)).2.length + 1 : Nat) : Int) ≤ (g (q.1 + 1, -1)).1.1
          omega
    rintro x1 m ⟨G1, rfl, f1, T1, q1, -⟩
    have q1 := hskip hq q1
    subst q1
    by_cases e1 : pk t en q.1 = 42
    · rw [if_pos e1]
      rw [if_pos (zskipP_y hq e1).1] at hz
      rw [(zskipP_y hq e1).2] at T1
      obtain ⟨K, k1, k2⟩ := go 42 (-3) G1 (by decide) e1 f1 T1 hz
      refine yE ⟨sl, cV k1 (fun m hm => ?_)⟩
      obtain ⟨H, rfl, k3⟩ := k2 m hm
      exact ⟨sl, cV k3 (fun m hm => hm)⟩
    rw [if_neg e1]
    rw [if_neg (zskipP_n (fun z => e1 z.2)).1] at hz
    rw [(zskipP_n (fun z => e1 z.2)).2] at T1
    refine nE ⟨rfl, cI (C_skip (by decide) T1) ?_⟩
    rintro x2 m ⟨G2, rfl, f2, T2, q2, -⟩
    have q2 := hskip hq q2
    have f2 := f1.trans f2
    subst q2
    by_cases e2 : pk t en q.1 = 47
    · rw [if_pos e2]
      rw [if_pos (zskipP_y hq e2).1] at hz
      rw [(zskipP_y hq e2).2] at T2
      obtain ⟨K, k1, k2⟩ := go 47 (-4) G2 (by decide) e2 f2 T2 hz
      refine yE ⟨sl, cV k1 (fun m hm => ?_)⟩
      obtain ⟨H, rfl, k3⟩ := k2 m hm
      exact ⟨sl, cV k3 (fun m hm => hm)⟩
    rw [if_neg e2]
    rw [if_neg (zskipP_n (fun z => e2 z.2)).1] at hz
    rw [(zskipP_n (fun z => e2 z.2)).2] at T2
    refine nE ⟨rfl, G2, rfl, hE.trans (lwF_t f2), ?_⟩
    rw [← hz]
    exact R.tx (p' := q) hl f2 T2 (fun _ => hq)
  · have e : lmore t en 42 (-3) 47 (-4) g (40 - i).toNat (q, cs) = (q, cs) := by
      rw [show (40 - i).toNat = (40 - (i + 1)).toNat + 1 by omega]
      have n : ∀ c : Int, ¬ zskip t en c q = true := fun c z => hq (zskip_at z).1
      refine (if_neg (n 42)).trans (if_neg (n 47))
    rw [e] at hz
    rw [← hz]
    exact R
theorem C_readSum {g : Ps → Ls} {dp : Int} {N : Nat} (hl : lawId l) (h40 : en ≤ 40) (hcon : Lcon en g) (hS : LOK mX2_readProduct n1 l W t en g [vi dp] (N + 3)) :
    LOK mX2_readSum n1 l W t en (lsum t en g) [vi dp] (N + 4) := by
  intro D p cd hg hlen h
  have sl := (sLaw_of (n1 := n1) (W := W) hl).1
  have hT : TxR D t en p := h.1
  have hp := hT.at hg
  refine Cl_of mb_X2_readSum (Nat.le_of_ble_eq_true rfl) (sg_X2_readSum_0 ⟨sl, cV (hS D p cd hg hlen h) ?_⟩)
  rintro m ⟨G0, rfl, f0, R0⟩
  refine Wp.loop (σ := Int) (fun i => [some (vr l), some (vr 17), some (vi dp), some (vi i)])
    (fun i μ => ∃ (E : DD) (x : Ls), μ = (E, rho n1 W) ∧ Fr (lwF l) D E ∧ LwR E l t en (x.1, cd ++ x.2) ∧ (x.1.2 = -1 → p.1 + (x.2.length : Int) ≤ x.1.1 ∧ x.1.1 ≤ en) ∧ 0 ≤ i ∧ i ≤ 40 ∧ lmore t en 43 (-1) 45 (-2) g (40 - i).toNat x = lsum t en g p)
    (fun i => (40 - i).toNat) ?_ 0 _ ⟨G0, g p, rfl, f0, R0, fun z => hcon p hg hp.1 hp.2 z, by decide, by decide, rfl⟩
  rintro i μ ⟨E, ⟨q, cs⟩, rfl, hE, R, hx, i0, i1, hz⟩ ih
  have T : TxR E t en q := R.1
  have R : LwR E l t en (q, cd ++ cs) := R
  have hx : q.2 = -1 → p.1 + (cs.length : Int) ≤ q.1 ∧ q.1 ≤ en := hx
  refine sg_X2_readSum_8 ⟨fun c => ⟨rfl, E, rfl, hE, ?_⟩, fun c => ⟨rfl, cB (C_isGood T) (fun hq => yE ⟨rfl, cI (C_skip (by decide) T) ?_⟩) (fun hq => nE ⟨rfl, E, rfl, hE, ?_⟩)⟩⟩
  · rw [show (40 - i).toNat = 0 by omega] at hz
    rw [← hz]
    exact R
  · rw [show (40 - i).toNat = (40 - (i + 1)).toNat + 1 by omega] at hz
    have hz : (if zskip t en 43 q = true then lmore t en 43 (-1) 45 (-2) g (40 - (i + 1)).toNat ((g (q.1 + 1, -1)).1, (cs ++ (g (q.1 + 1, -1)).2) ++ [-1])
      else if zskip t en 45 q = true then lmore t en 43 (-1) 45 (-2) g (40 - (i + 1)).toNat ((g (q.1 + 1, -1)).1, (cs ++ (g (q.1 + 1, -1)).2) ++ [-2]) else (q, cs)) = lsum t en g p := hz
    obtain ⟨hx1, hx2⟩ := hx hq
    have go : ∀ (c0 e0 : Int) (G : DD), 0 ≤ c0 → pk t en q.1 = c0 → Fr tF E G → TxR G t en (q.1 + 1, -1) →
        lmore t en 43 (-1) 45 (-2) g (40 - (i + 1)).toNat ((g (q.1 + 1, -1)).1, (cs ++ (g (q.1 + 1, -1)).2) ++ [e0]) = lsum t en g p →
        ∃ (K : Mem → Prop), Cl (N + 3) 0 0 mX2_readProduct [vr l, vr 17, vi dp] (G, rho n1 W) (KV K) ∧ ∀ m, K m → ∃ H, m = (H, rho n1 W) ∧
          Cl (N + 3) 0 0 mX2_emit [vr l, vi e0] (H, rho n1 W) (KV (fun m => ∀ v, v = w32 (i + 1) → Wp (N + 4) 0 0 mX2_readSum 8 [some (vr l), some (vr 17), some (vi dp), some (vi v)] [] m (KV (fun m => ∃ D', m = (D', rho n1 W) ∧ Fr (lwF l) D D' ∧ LwR D' l t en ((lsum t en g p).1, cd ++ (lsum t en g p).2))))) := by
      intro c0 e0 G hc he f1 T1 hzz
      have hlt := pkc_lt he hc
      refine ⟨_, hS G (q.1 + 1, -1) (cd ++ cs) rfl (by rw [List.length_append]; show ((_ + _ : Nat) : Int) ≤ q.1 + 1; omega) (R.tx (p' := (q.1 + 1, -1)) hl f1 T1 (fun _ => hq)), ?_⟩
      rintro m ⟨H, rfl, k1, k2⟩
      have con := hcon (q.1 + 1, -1) rfl (by dsimp only; omega) (by dsimp only; omega)
      refine ⟨H, rfl, (C_emit (p := (g (q.1 + 1, -1)).1) hl k2 (fun z => ?_)).weak (KV.weak ?_)⟩
      · have c1 : q.1 + 1 + ((g (q.1 + 1, -1)).2.length : Int) ≤ (g (q.1 + 1, -1)).1.1 := (con z).1
        have c2 := (con z).2
        rw [List.length_append, List.length_append]
        omega
      · rintro m ⟨K, rfl, j1, j2⟩ v rfl
        rw [w32_id (by omega) (by omega)]
        refine ih (i + 1) _ ⟨K, ((g (q.1 + 1, -1)).1, (cs ++ (g (q.1 + 1, -1)).2) ++ [e0]), rfl, ((hE.trans (lwF_t f1)).trans k1).trans j1, ?_, fun z => ?_, by omega, by omega, hzz⟩ (by omega)
        · refine j2.sub (fun _ => ?_)
          rw [List.append_assoc, List.append_assoc, List.append_assoc]
        · have z : (g (q.1 + 1, -1)).1.2 = -1 := z
          have c1 : q.1 + 1 + ((g (q.1 + 1, -1)).2.length : Int) ≤ (g (q.1 + 1, -1)).1.1 := (con z).1
          refine ⟨?_, (con z).2⟩
          rw [List.length_append, List.length_append]
          show p.1 + ((cs.length + (g (q.1 + 1, -1)).2.length + 1 : Nat) : Int) ≤ (g (q.1 + 1, -1)).1.1
          omega
    rintro x1 m ⟨G1, rfl, f1, T1, q1, -⟩
    have q1 := hskip hq q1
    subst q1
    by_cases e1 : pk t en q.1 = 43
    · rw [if_pos e1]
      rw [if_pos (zskipP_y hq e1).1] at hz
      rw [(zskipP_y hq e1).2] at T1
      obtain ⟨K, k1, k2⟩ := go 43 (-1) G1 (by decide) e1 f1 T1 hz
      refine yE ⟨sl, cV k1 (fun m hm => ?_)⟩
      obtain ⟨H, rfl, k3⟩ := k2 m hm
      exact ⟨sl, cV k3 (fun m hm => hm)⟩
    rw [if_neg e1]
    rw [if_neg (zskipP_n (fun z => e1 z.2)).1] at hz
    rw [(zskipP_n (fun z => e1 z.2)).2] at T1
    refine nE ⟨rfl, cI (C_skip (by decide) T1) ?_⟩
    rintro x2 m ⟨G2, rfl, f2, T2, q2, -⟩
    have q2 := hskip hq q2
    have f2 := f1.trans f2
    subst q2
    by_cases e2 : pk t en q.1 = 45
    · rw [if_pos e2]
      rw [if_pos (zskipP_y hq e2).1] at hz
      rw [(zskipP_y hq e2).2] at T2
      obtain ⟨K, k1, k2⟩ := go 45 (-2) G2 (by decide) e2 f2 T2 hz
      refine yE ⟨sl, cV k1 (fun m hm => ?_)⟩
      obtain ⟨H, rfl, k3⟩ := k2 m hm
      exact ⟨sl, cV k3 (fun m hm => hm)⟩
    rw [if_neg e2]
    rw [if_neg (zskipP_n (fun z => e2 z.2)).1] at hz
    rw [(zskipP_n (fun z => e2 z.2)).2] at T2
    refine nE ⟨rfl, G2, rfl, hE.trans (lwF_t f2), ?_⟩
    rw [← hz]
    exact R.tx (p' := q) hl f2 T2 (fun _ => hq)
  · have e : lmore t en 43 (-1) 45 (-2) g (40 - i).toNat (q, cs) = (q, cs) := by
      rw [show (40 - i).toNat = (40 - (i + 1)).toNat + 1 by omega]
      have n : ∀ c : Int, ¬ zskip t en c q = true := fun c z => hq (zskip_at z).1
      refine (if_neg (n 43)).trans (if_neg (n 45))
    rw [e] at hz
    rw [← hz]
    exact R
end LRD2
