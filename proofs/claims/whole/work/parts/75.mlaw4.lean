/-! ===== the model's law ===== -/
theorem lT_con {t : Int → Int} {en : Int} : ∀ {k : Nat}, Lcon en (lT t en k)
  | 0 => lthing_con (fun z => Bool.noConfusion z)
  | _ + 1 => lthing_con (fun _ => lS_con)
section MLQ
variable {d n1 : Nat} {W : Nat → Nat} {D : DD} {t : Int → Int} {en : Int} {p : Ps} {ε : LEnv}
theorem M_sums {k : Nat} {dp n : Int} (h40 : en ≤ 40) (h : MTK n1 W t en ε k dp n) : MOK mX10_sum n1 W t en ε (lS t en k) (ndT k + 2) dp 6 n := by
  rw [lS_eq]
  exact M_sum h40 (lprod_con lT_con) (M_product h40 lT_con h.ok)
theorem M_all (h40 : en ≤ 40) : ∀ (m k : Nat), k ≤ 4 → MTK n1 W t en ε k (4 - (k : Int)) ((m : Int) - 1) := by
  intro m
  induction m with
  | zero =>
    intro k hk D p e hg hT hE hn he
    have := hT.at hg
    have hn : en - p.1 ≤ ((0 : Nat) : Int) - 1 := hn
    omega
  | succ m ih =>
    intro k hk
    refine M_thing h40 (by omega) (by omega) ?_ (fun k' hk' => ?_)
    · rw [show ((m + 1 : Nat) : Int) - 1 - 1 = (m : Int) - 1 by omega]
      exact ih k hk
    · have := M_sums h40 (ih k' (by omega))
      rw [show ((m + 1 : Nat) : Int) - 1 - 1 = (m : Int) - 1 by omega, show (4 - (k : Int)) + 1 = 4 - (k' : Int) by omega]
      exact this
theorem M_sum4 (h40 : en ≤ 40) : MOK mX10_sum n1 W t en ε (lS t en 4) 11 0 6 40 := M_sums h40 (M_all h40 41 4 (by decide))
end MLQ
def lm0 (q : Nat) (j : Int) : Prop := q = 152 ∧ (j = 12 ∨ j = 15 ∨ (18 ≤ j ∧ j ≤ 21))
def lmS (i : Int) (q : Nat) (j : Int) : Prop := lm0 q j ∨ (q = 175 ∧ j = i) ∨ q = 172 + i.toNat
def LmA (n1 : Nat) (D : DD) (W : Nat → Nat) (t : Int → Int) (n i r : Int) (m : Mem) : Prop := ∃ D' : DD, m = (D', rho n1 (uW W 12 159)) ∧ D' 152 12 = 0 ∧ D' 152 15 = 0 ∧
  (¬ (0 ≤ i ∧ i ≤ 2) ∧ r = -100 ∧ Fr lm0 D D' ∨ (0 ≤ i ∧ i ≤ 2) ∧ ¬ zlFin t n = -1 ∧ r = w32 (-1 - zlFin t n) ∧ Fr lm0 D D' ∨
    (0 ≤ i ∧ i ≤ 2) ∧ zlFin t n = -1 ∧ r = 0 ∧ n ≤ 40 ∧ D' 175 i = n ∧ (∀ k, 0 ≤ k → k < n → D' (172 + i.toNat) k = t k) ∧ Fr (lmS i) D D')
section MLR
variable {d n1 : Nat} {W : Nat → Nat} {D : DD} {t : Int → Int}
theorem RF_171 {i : Int} (h : 0 ≤ i ∧ i ≤ 2) : mR (D, rho n1 W) 171 i = 172 + i.toNat ∧ mK (D, rho n1 W) (172 + i.toNat) = 22 ∧ mN (D, rho n1 W) (172 + i.toNat) = 40 := by
  have : i = 0 ∨ i = 1 ∨ i = 2 := by omega
  rcases this with h | h | h <;> subst h <;> exact ⟨rfl, rfl, rfl⟩
theorem C_mlaw {i : Int} (h0 : 0 ≤ D 152 12) (h1 : D 152 12 ≤ 80) (ht : ∀ k, 0 ≤ k → k < D 152 12 → D 159 k = t k) (h8 : ∀ k, 0 ≤ k → k < D 152 12 → w8 (t k) = t k) : Cl (d + 127) 0 0 mX10_law [vr 152, vi i] (D, rho n1 W) (KI (LmA n1 D W t (D 152 12) i)) := by
  generalize hN : D 152 12 = n at h0 h1 ht h8
  refine Cl_of mb_X10_law (Nat.le_of_ble_eq_true rfl) (sg_X10_law_0 ⟨rfl, fun m1 e1 => ?_⟩)
  have e1 : m1 = (wr D 152 15 0, rho n1 W) := e1
  subst e1
  intro v1 ev
  have ev : v1 = n := by rw [ev, ← hN]; show wr D 152 15 0 152 12 = _; rw [wr_j (by decide)]
  subst ev
  refine cV (C_mstart (D := wr D 152 15 0) (a := 159) (n := v1) (mx := 40)) ?_
  rintro m2 rfl
  refine ⟨rfl, fun m3 e3 => ?_⟩
  obtain ⟨E, hE⟩ : ∃ E, E = wr (wr (wr (wr (wr (wr D 152 15 0) 152 18 v1) 152 19 40) 152 20 0) 152 21 (-1)) 152 12 0 := ⟨_, rfl⟩
  have e3 : m3 = (E, rho n1 (uW W 12 159)) := by rw [hE]; exact e3
  subst e3
  have fE : Fr lm0 D E := by
    rw [hE]
    exact (((((Fr.refl.wr (by unfold lm0; omega)).wr (by unfold lm0; omega)).wr (by unfold lm0; omega)).wr (by unfold lm0; omega)).wr (by unfold lm0; omega)).wr (by unfold lm0; omega)
  have a12 : E 152 12 = 0 := by rw [hE, wr_at]
  have a15 : E 152 15 = 0 := by rw [hE, wr_j (by decide), wr_j (by decide), wr_j (by decide), wr_j (by decide), wr_j (by decide), wr_at]
  have a18 : E 152 18 = v1 := by rw [hE, wr_j (by decide), wr_j (by decide), wr_j (by decide), wr_j (by decide), wr_at]
  have a19 : E 152 19 = 40 := by rw [hE, wr_j (by decide), wr_j (by decide), wr_j (by decide), wr_at]
  have a20 : E 152 20 = 0 := by rw [hE, wr_j (by decide), wr_j (by decide), wr_at]
  have a21 : E 152 21 = -1 := by rw [hE, wr_j (by decide), wr_at]
  have a156 : ∀ k, 0 ≤ k → k < v1 → E 159 k = t k := fun k a b => by rw [fE 159 k (by unfold lm0; omega)]; exact ht k a b
  refine cB C_in (fun hi => yN ?_) (fun hi => nN ⟨_, rfl, E, rfl, a12, a15, Or.inl ⟨hi, rfl, fE⟩⟩)
  have s80 : ∀ G : DD, Fr mxF E G → zlFin t v1 = -1 → v1 ≤ 40 → Wp (d + 127) 0 0 mX10_law 80 [some (vr 152), some (vi i), some (vi v1), some (vi 0)] [] (G, rho n1 (uW W 12 159)) (KI (LmA n1 D W t v1 i)) := by
    intro G hG hz h40
    refine Wp.loop (σ := Int) (fun k => [some (vr 152), some (vi i), some (vi v1), some (vi k)])
      (fun k μ => ∃ H : DD, μ = (H, rho n1 (uW W 12 159)) ∧ Fr (fun q j => q = 172 + i.toNat) G H ∧ 0 ≤ k ∧ k ≤ v1 ∧ ∀ j, 0 ≤ j → j < k → H (172 + i.toNat) j = t j)
      (fun k => (v1 - k).toNat) ?_ 0 _ ⟨G, rfl, Fr.refl, by decide, h0, fun j a b => by omega⟩
    rintro k μ ⟨H, rfl, hH, k0, k1, hc⟩ ih
    obtain ⟨r1, r2, r3⟩ := RF_171 (D := H) (n1 := n1) (W := uW W 12 159) hi
    refine sg_X10_law_80 ⟨fun c => ⟨rfl, rfl, bnd (N := 3) rfl hi.1 (by omega), fun m1 e1 => ?_⟩, fun c => ⟨rfl, rfl, bnd (N := 3) rfl hi.1 (by omega), rfl, bnd (N := 80) rfl k0 (by omega), ?_⟩⟩
    · have e1 : m1 = (wr H 175 i v1, rho n1 (uW W 12 159)) := e1
      subst e1
      refine ⟨_, rfl, _, rfl, ?_, ?_, Or.inr (Or.inr ⟨hi, hz, rfl, h40, wr_at, fun j a b => ?_, ?_⟩)⟩
      · rw [wr_o (by decide), hH 152 12 (by omega), hG 152 12 (by unfold mxF; omega), a12]
      · rw [wr_o (by decide), hH 152 15 (by omega), hG 152 15 (by unfold mxF; omega), a15]
      · rw [wr_o (by omega)]
        exact hc j a (by omega)
      · exact (((fE.mono (fun q j z => (Or.inl z : lmS i q j))).trans (hG.mono (fun q j z => by unfold mxF at z; unfold lm0; omega))).trans (hH.mono (fun q j z => Or.inr (Or.inr z)))).wr (Or.inr (Or.inl ⟨rfl, rfl⟩))
    · show mK (H, rho n1 (uW W 12 159)) (mR (H, rho n1 (uW W 12 159)) 171 i) = 22 ∧ _
      rw [show mR (H, rho n1 (uW W 12 159)) (mR (H, rho n1 (uW W 12 159)) 152 34) i = 172 + i.toNat from r1, show mR (H, rho n1 (uW W 12 159)) 171 i = 172 + i.toNat from r1]
      refine ⟨r2, bnd (N := 40) r3 k0 (by omega), fun m2 e2 z ez => ?_⟩
      have hk : H 159 k = t k := by
        rw [hH 159 k (by omega), hG 159 k (by unfold mxF; omega)]
        exact a156 k k0 (by omega)
      have e2 : m2 = (wr H (172 + i.toNat) k (t k), rho n1 (uW W 12 159)) := by
        rw [e2, show mD (H, rho n1 (uW W 12 159)) (mR (H, rho n1 (uW W 12 159)) 152 11) k = t k from hk, h8 k k0 (by omega)]
        rfl
      subst e2
      rw [w32_id (by omega) (by omega)] at ez
      subst ez
      refine ih (k + 1) _ ⟨_, rfl, hH.wr rfl, by omega, by omega, fun j a b => ?_⟩ (by omega)
      by_cases q : j = k
      · rw [q, wr_at]
      · rw [wr_j q]
        exact hc j a (by omega)
  have fm : ∀ {G : DD}, Fr mxF E G → Fr lm0 D G := fun f => fE.trans (f.mono (fun q j z => by unfold mxF at z; unfold lm0; omega))
  refine ⟨fun c => s80 E Fr.refl ?_ (by omega), fun c => ⟨rfl, ?_⟩⟩
  · have e0 : v1 = 0 := by omega
    subst e0
    rfl
  have T0 : MxR E (uW W 12 159) t (min v1 40) (0, -1) := ⟨by rw [a18, a19], a21, by omega, fun _ => ⟨a20, by dsimp only; omega⟩, by show (-1 : Int) ≤ -1; decide, fun k a b => a156 k a (by omega), by omega, Or.inl rfl, fun c => absurd rfl c⟩
  have hzl : zlawr t (min v1 40) = lS t (min v1 40) 4 (0, -1) := if_pos (by omega)
  refine cI (M_sum4 (ε := (E 152 36, E 152 37, E 152 38, E 153 2, E 152 39)) (by omega) E (0, -1) (d + 126) rfl T0 ⟨rfl, rfl, rfl, rfl, rfl⟩ (by dsimp only; omega) (by dsimp only; omega)) ?_
  rintro x2 m ⟨G, rfl, f2, T2, -⟩
  rw [← hzl] at T2
  have hF : zlFin t v1 = zfin v1 (min v1 40) (zlawr t (min v1 40)).1 := rfl
  generalize (zlawr t (min v1 40)).1 = q at T2 hF
  have ebad : ¬ q.2 = -1 → zlFin t v1 = q.2 := fun b => hF.trans (if_neg b)
  have s64 : ∀ H : DD, Fr mxF E H → MxR H (uW W 12 159) t (min v1 40) (q.1, zlFin t v1) → Wp (d + 127) 0 0 mX10_law 64 [some (vr 152), some (vi i), some (vi v1), none] [] (H, rho n1 (uW W 12 159)) (KI (LmA n1 D W t v1 i)) := by
    intro H hH T
    refine sg_X10_law_64 ⟨rfl, cB (C_mfine T) (fun good => yN (s80 H hH good ?_)) (fun bad => nN ⟨rfl, _, rfl, H, rfl, ?_, ?_, Or.inr (Or.inl ⟨hi, bad, ?_, fm hH⟩)⟩)⟩
    · have good : zlFin t v1 = -1 := good
      have hq := (T.2.2.2.1 good).2
      rw [hF] at good
      have g := zfin_good good
      unfold zfin at good
      rw [if_pos g] at good
      by_cases z : q.1 < min v1 40 ∨ min v1 40 < v1
      · rw [if_pos z] at good
        have := T2.at g
        omega
      · omega
    · rw [hH 152 12 (by unfold mxF; omega), a12]
    · rw [hH 152 15 (by unfold mxF; omega), a15]
    · have e21 : H 152 21 = zlFin t v1 := T.2.1
      rw [← e21]
      rfl
  refine ⟨rfl, fun c => s64 G f2 ?_, fun c => cV (C_mfault (d := d + 125) (pl := G 152 20) (fun _ => T2.2.2.1.1) T2) ?_⟩
  · have c : v1 ≤ G 152 20 := c
    by_cases g : q.2 = -1
    · have ha := (T2.2.2.2.1 g)
      have : zlFin t v1 = -1 := by
        rw [hF]
        unfold zfin
        rw [if_pos g, if_neg (by omega)]
      rw [this, ← g]
      exact T2
    · rw [ebad g]
      exact T2
  · have c : ¬ v1 ≤ G 152 20 := c
    rintro m ⟨H, rfl, f3, T3⟩
    refine s64 H (f2.trans f3) ?_
    by_cases g : q.2 = -1
    · have ha := (T2.2.2.2.1 g)
      have : zlFin t v1 = q.1 := by
        rw [hF]
        unfold zfin
        rw [if_pos g, if_pos (by omega)]
      rw [this]
      rw [if_pos g, ha.1] at T3
      exact T3
    · rw [if_neg g] at T3
      rw [ebad g]
      exact T3
end MLR
