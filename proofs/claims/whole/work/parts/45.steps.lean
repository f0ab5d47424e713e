/-! ===== STEPS of a WALK; a lorry's stop ===== -/
def stAl (n push : Int) : Int → Int := fun t => if t % n < n / 2 then push else w32 (-push)
def stAc (n s0 sway : Int) : Int → Int := fun t => if (s0 + t / n) % 2 = 0 then sway else w32 (-sway)
def stSt (n s0 : Int) : Int → Int := fun t => s0 + t / n
def wSteps' (v : Wv) (wa push n sway times : Int) : Wv := wStp (wExt v (n * times) wa (stAl n push) (stAc n (wSteps v) sway) (stSt n (wSteps v))) (wSteps v + times)
def w0 : Wv := (0, 0, fun _ => 0, fun _ => 0, fun _ => 0, fun _ => 0)
def brAl (speed n : Int) : Int → Int := fun t => if n ≤ t then 0 else w32 (w32 (speed.tdiv n) + (if speed.tmod n ≤ t then 0 else 1))
def wBrake (speed n : Int) : Wv := wExt w0 (n + 100) 0 (brAl speed n) (fun _ => 0) (fun _ => -1)
theorem mul_facts {n s : Int} (hn : 1 ≤ n) {i : Int} (i0 : 0 ≤ i) (i1 : i < n) : (n * s + i) % n = i ∧ (n * s + i) / n = s := by
  refine ⟨?_, ?_⟩
  · rw [Int.mul_add_emod_self_left, Int.emod_eq_of_lt i0 i1]
  · rw [Int.add_comm, Int.add_mul_ediv_left _ _ (by omega), Int.ediv_eq_zero_of_lt i0 i1, Int.zero_add]
section STP
variable {d w : Nat} {D : DD} {ρ : Rho}
theorem C_addSteps {push n sway times : Int} (hw : SWk ρ w) (t0 : 0 ≤ D w 4) (hn : 1 ≤ n) (hn2 : n ≤ 1000) (h0 : 0 ≤ times) (hb : D w 4 + n * times ≤ 1000) (s0 : 0 ≤ D w 5) (s1 : D w 5 ≤ 1000) (h2 : times ≤ 1000) :
    Cl (d + 1) 0 0 mX8_addSteps [vr w, vi push, vi n, vi sway, vi times] (D, ρ) (KV (fun m => ∃ D', m = (D', ρ) ∧ Fr (wF w) D D' ∧ wkv D' w = wSteps' (wkv D w) (D w 6) push n sway times ∧ D' w 6 = D w 6)) := by
  have hn0 : w32 (n.tdiv 2) = n / 2 := by rw [Int.tdiv_eq_ediv_of_nonneg (by omega), w32_id (by omega) (by omega)]
  refine Cl_of mb_X8_addSteps (by show 5 ≤ 8; decide) (sg_X8_addSteps_0 ?_)
  refine Wp.loop (σ := Int) (fun s => [some (vr w), some (vi push), some (vi n), some (vi sway), some (vi times), some (vi s), none, none])
    (fun s μ => ∃ E : DD, μ = (E, ρ) ∧ Fr (wF w) D E ∧ 0 ≤ s ∧ s ≤ times ∧ wkv E w = wSteps' (wkv D w) (D w 6) push n sway s ∧ E w 6 = D w 6)
    (fun s => (times - s).toNat) ?_ 0 (D, ρ) ⟨D, rfl, Fr.refl, Int.le_refl _, h0, ?_, rfl⟩
  rotate_left
  · unfold wSteps'
    rw [Int.mul_zero, wExt_0, Int.add_zero]
    rfl
  rintro s μ ⟨E, rfl, hF, j0, j1, hv, h6⟩ ih
  have e5 : E w 5 = D w 5 + s := congrArg (fun q : Wv => q.2.1) hv
  refine sg_X8_addSteps_3 ⟨fun c => ⟨rfl, E, rfl, hF, ?_, h6⟩, fun c => ?_⟩
  · rw [hv, show s = times by omega]
  have hs1 : n * (s + 1) = n * s + n := by rw [Int.mul_add, Int.mul_one]
  have hs2 : n * (s + 1) ≤ n * times := Int.mul_le_mul_of_nonneg_left (by omega) (by omega)
  have hs0 : 0 ≤ n * s := Int.mul_nonneg (by omega) j0
  have inner : ∀ side : Int, side = stAc n (D w 5) sway (n * s) → Wp (d + 1) 0 0 mX8_addSteps 30 [some (vr w), some (vi push), some (vi n), some (vi sway), some (vi times), some (vi s), some (vi side), some (vi 0)] [] (E, ρ) (KV (fun m => ∃ D', m = (D', ρ) ∧ Fr (wF w) D D' ∧ wkv D' w = wSteps' (wkv D w) (D w 6) push n sway times ∧ D' w 6 = D w 6)) := by
    intro side hside
    refine Wp.loop (σ := Int) (fun i => [some (vr w), some (vi push), some (vi n), some (vi sway), some (vi times), some (vi s), some (vi side), some (vi i)])
      (fun i μ => ∃ G : DD, μ = (G, ρ) ∧ Fr (wF w) D G ∧ 0 ≤ i ∧ i ≤ n ∧ wkv G w = wStp (wExt (wkv D w) (n * s + i) (D w 6) (stAl n push) (stAc n (D w 5) sway) (stSt n (D w 5))) (D w 5 + s) ∧ G w 6 = D w 6)
      (fun i => (n - i).toNat) ?_ 0 (E, ρ) ⟨E, rfl, hF, Int.le_refl _, by omega, by rw [hv, Int.add_zero]; rfl, h6⟩
    rintro i μ ⟨G, rfl, hG, i0, i1, hg, g6⟩ ih2
    have g5 : G w 5 = D w 5 + s := congrArg (fun q : Wv => q.2.1) hg
    have g4 : G w 4 = D w 4 + (n * s + i) := congrArg (fun q : Wv => q.1) hg
    have step : ∀ al : Int, i < n → al = stAl n push (n * s + i) → ∀ (m1 : Mem), (∃ D', m1 = (D', ρ) ∧ Fr (wF w) G D' ∧ wkv D' w = wPut (wkv G w) al side (G w 6) (G w 5) ∧ D' w 6 = G w 6 ∧ D' w 4 = G w 4 + 1) →
        ∀ v, v = w32 (i + 1) → Wp (d + 1) 0 0 mX8_addSteps 30 [some (vr w), some (vi push), some (vi n), some (vi sway), some (vi times), some (vi s), some (vi side), some (vi v)] [] m1 (KV (fun m => ∃ D', m = (D', ρ) ∧ Fr (wF w) D D' ∧ wkv D' w = wSteps' (wkv D w) (D w 6) push n sway times ∧ D' w 6 = D w 6)) := by
      rintro al hi hal m1 ⟨H, rfl, k1, k2, k3, k4⟩ v rfl
      rw [w32_id (by omega) (by omega)]
      refine ih2 (i + 1) (H, ρ) ⟨H, rfl, hG.trans k1, by omega, by omega, ?_, k3.trans g6⟩ (by omega)
      obtain ⟨q1, q2⟩ := mul_facts (n := n) (s := s) hn i0 hi
      have q3 : (n * s) / n = s := by
        have := (mul_facts (n := n) (s := s) hn (i := 0) (by omega) (by omega)).2
        rwa [Int.add_zero] at this
      have hac : side = stAc n (D w 5) sway (n * s + i) := by
        rw [hside]
        unfold stAc
        rw [q2, q3]
      have hst : G w 5 = stSt n (D w 5) (n * s + i) := by
        unfold stSt
        rw [q2, g5]
      rw [k2, hg, hal, hac, g6, hst]
      show wStp (wPut (wExt (wkv D w) (n * s + i) (D w 6) (stAl n push) (stAc n (D w 5) sway) (stSt n (D w 5))) (stAl n push (n * s + i)) (stAc n (D w 5) sway (n * s + i)) (D w 6) (stSt n (D w 5) (n * s + i))) (D w 5 + s) = _
      rw [wExt_s (by omega), Int.add_assoc]
    refine sg_X8_addSteps_30 ⟨fun c2 => ⟨hw.1, fun m1 e1 v e => ?_⟩, fun c2 => ⟨fun c3 => ⟨hw.1, cV (C_addTick (D := G) hw (by omega) (by omega)) (step _ (by omega) ?_)⟩, fun c3 => ⟨hw.1, cV (C_addTick (D := G) hw (by omega) (by omega)) (step _ (by omega) ?_)⟩⟩⟩
    · rw [w32_id (by omega) (by omega)] at e
      subst e
      have e1 : m1 = (wr G w 5 (w32 (G w 5 + 1)), ρ) := e1
      subst e1
      refine ih (s + 1) _ ⟨_, rfl, hG.wr (by unfold wF; omega), by omega, by omega, ?_, by rw [wr_j (by decide)]; exact g6⟩ (by omega)
      have hz : wkv (wr G w 5 (w32 (G w 5 + 1))) w = wStp (wkv G w) (w32 (G w 5 + 1)) := by
        unfold wkv wStp
        rw [wr_j (by decide), wr_at, wr_o (by omega), wr_o (by omega), wr_o (by omega), wr_o (by omega)]
        rfl
      rw [hz, hg, g5, w32_id (by omega) (by omega), show i = n by omega]
      unfold wSteps'
      rw [hs1, show D w 5 + s + 1 = D w 5 + (s + 1) by omega]
      rfl
    · unfold stAl
      rw [(mul_facts (n := n) (s := s) hn i0 (by omega)).1, if_neg (by omega)]
    · unfold stAl
      rw [(mul_facts (n := n) (s := s) hn i0 (by omega)).1, if_pos (by omega)]
  have q3 : (n * s) / n = s := by
    have := (mul_facts (n := n) (s := s) hn (i := 0) (by omega) (by omega)).2
    rwa [Int.add_zero] at this
  have em : (mD (E, ρ) w 5).tmod 2 = (D w 5 + s) % 2 := by
    show (E w 5).tmod 2 = _
    rw [e5, Int.tmod_eq_emod_of_nonneg (by omega)]
  refine ⟨hw.1, fun c2 v e => ?_, fun c2 => inner sway ?_⟩
  · rw [em] at c2
    subst e
    refine inner _ ?_
    unfold stAc
    rw [q3, if_neg c2]
  · rw [em] at c2
    unfold stAc
    rw [q3, if_pos c2]
end STP
section BRK
variable {d n1 : Nat} {W : Nat → Nat} {D : DD}
theorem C_brake {speed n : Int} (hw : walkId (W 4)) (h0 : 1 ≤ n) (h1 : n ≤ 200) : Cl (d + 1) 0 0 mX9_brake [vr 4, vi speed, vi n] (D, rho n1 W) (KV (fun m => ∃ D', m = (D', rho n1 W) ∧ Fr (wF (W 4)) D D' ∧ wkv D' (W 4) = wBrake speed n)) := by
  have sw := sWk_of (n1 := n1) (W := W) hw
  refine Cl_of mb_X9_brake (by show 3 ≤ 4; decide) (sg_X9_brake_0 ⟨rfl, sw.1, cV (C_wclear (D := D) sw) ?_⟩)
  rintro m1 ⟨E, rfl, hF, hv, h6⟩
  -- the second loop
  have two : ∀ G : DD, Fr (wF (W 4)) D G → wkv G (W 4) = wExt w0 n 0 (brAl speed n) (fun _ => 0) (fun _ => -1) → G (W 4) 6 = 0 → Wp (d + 1) 0 0 mX9_brake 47 [some (vr 4), some (vi speed), some (vi n), some (vi 0)] [] (G, rho n1 W) (KV (fun m => ∃ D', m = (D', rho n1 W) ∧ Fr (wF (W 4)) D D' ∧ wkv D' (W 4) = wBrake speed n)) := by
    intro G hG hg g6
    refine Wp.loop (σ := Int) (fun i => [some (vr 4), some (vi speed), some (vi n), some (vi i)])
      (fun i μ => ∃ H : DD, μ = (H, rho n1 W) ∧ Fr (wF (W 4)) D H ∧ 0 ≤ i ∧ i ≤ 100 ∧ wkv H (W 4) = wExt w0 (n + i) 0 (brAl speed n) (fun _ => 0) (fun _ => -1) ∧ H (W 4) 6 = 0)
      (fun i => (100 - i).toNat) ?_ 0 (G, rho n1 W) ⟨G, rfl, hG, by decide, by decide, by rw [hg, Int.add_zero], g6⟩
    rintro i μ ⟨H, rfl, hH, i0, i1, hh, k6⟩ ih
    have k4 : H (W 4) 4 = 0 + (n + i) := congrArg (fun q : Wv => q.1) hh
    refine sg_X9_brake_47 ⟨fun c => ⟨rfl, H, rfl, hH, ?_⟩, fun c => ⟨rfl, sw.1, cV (C_addTick (D := H) (w := W 4) sw (by omega) (by omega)) ?_⟩⟩
    · rw [hh, show i = 100 by omega]
      rfl
    · rintro m2 ⟨H2, rfl, a1, a2, a3, a4⟩ v rfl
      rw [w32_id (by omega) (by omega)]
      refine ih (i + 1) (H2, rho n1 W) ⟨H2, rfl, hH.trans a1, by omega, by omega, ?_, a3.trans k6⟩ (by omega)
      have e : brAl speed n (n + i) = 0 := if_pos (by omega)
      have := wExt_s (v := w0) (n := n + i) (wa := 0) (al := brAl speed n) (ac := fun _ => 0) (st := fun _ => -1) (by omega)
      rw [e] at this
      rw [a2, hh, k6, this, Int.add_assoc]
  refine Wp.loop (σ := Int) (fun i => [some (vr 4), some (vi speed), some (vi n), some (vi i)])
    (fun i μ => ∃ H : DD, μ = (H, rho n1 W) ∧ Fr (wF (W 4)) D H ∧ 0 ≤ i ∧ i ≤ n ∧ wkv H (W 4) = wExt w0 i 0 (brAl speed n) (fun _ => 0) (fun _ => -1) ∧ H (W 4) 6 = 0)
    (fun i => (n - i).toNat) ?_ 0 (E, rho n1 W) ⟨E, rfl, hF, by decide, by omega, by rw [wExt_0]; exact hv, h6⟩
  rintro i μ ⟨H, rfl, hH, i0, i1, hh, k6⟩ ih
  have k4 : H (W 4) 4 = 0 + i := congrArg (fun q : Wv => q.1) hh
  have next : ∀ al, al = brAl speed n i → i < n → ∀ m1, (∃ D', m1 = (D', rho n1 W) ∧ Fr (wF (W 4)) H D' ∧ wkv D' (W 4) = wPut (wkv H (W 4)) al 0 (H (W 4) 6) (-1) ∧ D' (W 4) 6 = H (W 4) 6 ∧ D' (W 4) 4 = H (W 4) 4 + 1) → ∀ v, v = w32 (i + 1) →
      Wp (d + 1) 0 0 mX9_brake 9 [some (vr 4), some (vi speed), some (vi n), some (vi v)] [] m1 (KV (fun m => ∃ D', m = (D', rho n1 W) ∧ Fr (wF (W 4)) D D' ∧ wkv D' (W 4) = wBrake speed n)) := by
    rintro al hal hi m1 ⟨H2, rfl, a1, a2, a3, a4⟩ v rfl
    rw [w32_id (by omega) (by omega)]
    refine ih (i + 1) (H2, rho n1 W) ⟨H2, rfl, hH.trans a1, by omega, by omega, ?_, a3.trans k6⟩ (by omega)
    have := wExt_s (v := w0) (n := i) (wa := 0) (al := brAl speed n) (ac := fun _ => 0) (st := fun _ => -1) (by omega)
    rw [a2, hh, k6, hal, this]
  refine sg_X9_brake_9 ⟨fun c => two H hH (by rw [hh, show i = n by omega]) k6, fun c => ⟨rfl, by omega, by omega, fun c2 => ⟨sw.1, cV (C_addTick (D := H) (w := W 4) sw (by omega) (by omega)) (next _ ?_ (by omega))⟩, fun c2 => ⟨sw.1, cV (C_addTick (D := H) (w := W 4) sw (by omega) (by omega)) (next _ ?_ (by omega))⟩⟩⟩
  · unfold brAl
    rw [if_neg c, if_pos c2]
  · unfold brAl
    rw [if_neg c, if_neg c2]
end BRK
