/-! ===== fractions in lowest terms: both divide alike; the model let go ===== -/
theorem l_neg (x : Int) : -Int64.ofInt x = Int64.ofInt (w64 (-x)) := by
  rw [← Int64.ofInt_neg]; exact (l_of (l_tw (-x))).symm
section LNEG
variable {d bc bs : Nat} {M : MI} {pc : Nat} {ls : List (Option AV)} {st : List AV} {μ : Mem} {Q : Option (Option AV) → Mem → Prop}
theorem st_lneg {x : Int} (hd : decode (mcd M) pc = .ok (.lneg, 1)) (k : Wp d bc bs M (pc + 1) ls (vl (w64 (-x)) :: st) μ Q) : Wp d bc bs M pc ls (vl x :: st) μ Q :=
  Wp.step (fun hC _ _ _ w => lv_lneg hC.1 hC.2.1 hd (by rw [l_neg]; exact w)) (fun _ _ h => oks_l (w64_r _) (oks_t h)) k
end LNEG
theorem sg_J9_abs_067f4_0 {d bc bs : Nat} {a0 : Int} {μ : Mem} {Q : Option (Option AV) → Mem → Prop}
    (h : (0 ≤ (if 0 < a0 then (1 : Int) else if a0 = 0 then 0 else -1) → Q (some (some (vl a0))) μ) ∧ (¬ 0 ≤ (if 0 < a0 then (1 : Int) else if a0 = 0 then 0 else -1) → Q (some (some (vl (w64 (-a0))))) μ)) :
    Wp d bc bs mJ9_abs_067f4 0 [some (vl a0), none] [] μ Q := by
  refine st_lload_n (pc := 0) dJ9_abs_067f4_0 rfl rfl ?_
  refine st_lconst (pc := 1) (x := 0) dJ9_abs_067f4_1 (by decide) (by unfold r64; omega) ?_
  refine st_lcmp (pc := 2) dJ9_abs_067f4_2 ?_
  refine st_ifge (pc := 3) (tgt := 11) dJ9_abs_067f4_3 rfl (fun c => ?_) (fun c => ?_)
  · replace h := h.1 c
    refine st_lload_n (pc := 11) dJ9_abs_067f4_11 rfl rfl ?_
    exact st_lreturn (pc := 12) dJ9_abs_067f4_12 rfl h
  · replace h := h.2 c
    refine st_lload_n (pc := 6) dJ9_abs_067f4_6 rfl rfl ?_
    refine st_lneg (pc := 7) dJ9_abs_067f4_7 ?_
    refine st_goto (pc := 8) dJ9_abs_067f4_8 rfl ?_
    exact st_lreturn (pc := 12) dJ9_abs_067f4_12 rfl h
theorem C_absl {d : Nat} {x : Int} {μ : Mem} (h0 : -4611686018427387904 < x) (h1 : x < 4611686018427387904) : Cl d 0 0 mJ9_abs_067f4 [vl x] μ (KL (fun r m => r = (x.natAbs : Int) ∧ m = μ)) := by
  refine Cl_of mb_J9_abs_067f4 (Nat.le_of_ble_eq_true rfl) (sg_J9_abs_067f4_0 ⟨fun c => ⟨_, rfl, ?_, rfl⟩, fun c => ⟨_, rfl, ?_, rfl⟩⟩)
  · have : 0 ≤ x := by
      by_cases z : 0 ≤ x
      · exact z
      · rw [if_neg (by omega), if_neg (by omega)] at c
        exact absurd c (by decide)
    omega
  · have : x < 0 := by
      by_cases z : x < 0
      · exact z
      · by_cases z2 : 0 < x
        · rw [if_pos z2] at c
          exact absurd (show (0 : Int) ≤ 1 by decide) c
        · rw [if_neg z2, if_pos (by omega)] at c
          exact absurd (Int.le_refl 0) c
    rw [w64_id (by omega) (by omega)]
    omega
theorem gcd_tmod (a b : Int) : Int.gcd b (a.tmod b) = Int.gcd a b := by
  show Nat.gcd b.natAbs (a.tmod b).natAbs = Nat.gcd a.natAbs b.natAbs
  rw [Int.natAbs_tmod, Nat.gcd_comm b.natAbs, ← Nat.gcd_rec b.natAbs a.natAbs, Nat.gcd_comm]
theorem mod_half {b r n : Nat} (h : b < 2 ^ (n + 1)) (h1 : r < b) (h0 : r ≠ 0) : b % r < 2 ^ n := by
  have e : 2 ^ (n + 1) = 2 * 2 ^ n := by rw [Nat.pow_succ]; omega
  rw [e] at h
  by_cases q : r ≤ b / 2
  · have := Nat.mod_lt b (show 0 < r by omega)
    omega
  · have e2 : b % r = b - r := by
      rw [Nat.mod_eq_sub_mod (by omega), Nat.mod_eq_of_lt (by omega)]
    omega
theorem tmod_small {a b : Int} (hb : b ≠ 0) : (a.tmod b).natAbs < b.natAbs := by
  rw [Int.natAbs_tmod]
  exact Nat.mod_lt _ (by omega)
theorem small20 {x : Nat} (h : x ≤ 1000000) : x < 2 ^ 20 := by
  have : (2 : Nat) ^ 20 = 1048576 := by decide
  omega
def r62 (x : Int) : Prop := -4611686018427387904 < x ∧ x < 4611686018427387904
theorem r62_tmod {a b : Int} (hb : b ≠ 0) (h : r62 b) : r62 (a.tmod b) := by
  have := tmod_small (a := a) hb
  unfold r62 at *
  omega
section GCD
variable {μ : Mem}
theorem C_mcom0 {d : Nat} {a : Int} (ha : r62 a) : Cl (d + 1) 0 0 mX10_common [vl a, vl 0] μ (KL (fun r m => r = ((Int.gcd a 0 : Nat) : Int) ∧ m = μ)) := by
  refine Cl_of mb_X10_common (Nat.le_of_ble_eq_true rfl) (sg_X10_common_0 ⟨fun c => absurd (show (if (0 : Int) < 0 then (1 : Int) else if (0 : Int) = 0 then 0 else -1) = 0 by decide) c, fun _ => cL (C_absl ha.1 ha.2) (fun x m hk => ⟨_, rfl, ?_, hk.2⟩)⟩)
  rw [hk.1, Int.gcd_zero]
theorem C_mcomS {d : Nat} {a b : Int} (hb : b ≠ 0) (h : Cl d 0 0 mX10_common [vl b, vl (a.tmod b)] μ (KL (fun r m => r = ((Int.gcd b (a.tmod b) : Nat) : Int) ∧ m = μ))) : Cl (d + 1) 0 0 mX10_common [vl a, vl b] μ (KL (fun r m => r = ((Int.gcd a b : Nat) : Int) ∧ m = μ)) := by
  refine Cl_of mb_X10_common (Nat.le_of_ble_eq_true rfl) (sg_X10_common_0 ⟨fun _ => ⟨hb, cL h (fun x m hk => ⟨_, rfl, ?_, hk.2⟩)⟩, fun c => absurd c ?_⟩)
  · rw [hk.1, gcd_tmod]
  · by_cases z : 0 < b
    · rw [if_pos z]
      decide
    · rw [if_neg z, if_neg hb]
      decide
theorem C_mcommon : ∀ (n : Nat) {d : Nat} {a b : Int}, b.natAbs < 2 ^ n → r62 a → r62 b → Cl (d + 2 * n + 2) 0 0 mX10_common [vl a, vl b] μ (KL (fun r m => r = ((Int.gcd a b : Nat) : Int) ∧ m = μ))
  | 0, d, a, b, h, ha, hb => by
    have e : b = 0 := by
      have : (2 : Nat) ^ 0 = 1 := rfl
      omega
    subst e
    exact C_mcom0 ha
  | n + 1, d, a, b, h, ha, hb => by
    by_cases z : b = 0
    · subst z
      exact C_mcom0 ha
    · have hr := r62_tmod (a := a) z hb
      rw [show d + 2 * (n + 1) + 2 = d + 2 * n + 3 + 1 by omega]
      refine C_mcomS z ?_
      by_cases q : a.tmod b = 0
      · rw [q]
        exact C_mcom0 hb
      · refine C_mcomS q (C_mcommon n ?_ hr (r62_tmod q hr))
        rw [Int.natAbs_tmod]
        exact mod_half h (tmod_small z) (by omega)
theorem zcd_s {m : Nat} {a b : Int} : zcd (m + 1) a b = if b ≤ 0 then a else zcd m b (a.tmod b) := rfl
theorem zcd_gcd : ∀ (n m : Nat) {a b : Int}, 0 ≤ a → 0 ≤ b → b.natAbs < 2 ^ n → 2 * n + 1 ≤ m → zcd m a b = ((Int.gcd a b : Nat) : Int)
  | 0, m, a, b, ha, hb, h, hm => by
    have e : b = 0 := by
      have : (2 : Nat) ^ 0 = 1 := rfl
      omega
    subst e
    obtain ⟨k, rfl⟩ : ∃ k, m = k + 1 := ⟨m - 1, by omega⟩
    rw [zcd_s, if_pos (by decide), Int.gcd_zero]
    omega
  | n + 1, m, a, b, ha, hb, h, hm => by
    obtain ⟨k, rfl⟩ : ∃ k, m = k + 1 + 1 := ⟨m - 2, by omega⟩
    rw [zcd_s]
    by_cases z : b ≤ 0
    · have e : b = 0 := by omega
      subst e
      rw [if_pos (by decide), Int.gcd_zero]
      omega
    · rw [if_neg z, zcd_s]
      have hr0 := Int.tmod_nonneg b ha
      by_cases q : a.tmod b ≤ 0
      · have e : a.tmod b = 0 := by omega
        rw [if_pos q, ← gcd_tmod, e, Int.gcd_zero]
        omega
      · rw [if_neg q, zcd_gcd n k hr0 (Int.tmod_nonneg _ (by omega)) ?_ (by omega), gcd_tmod, gcd_tmod]
        rw [Int.natAbs_tmod]
        exact mod_half h (tmod_small (by omega)) (by omega)
end GCD
/-- numbers that are small enough for both -/
theorem zfrac {u l : Int} (hu : -1000000 ≤ u ∧ u ≤ 1000000) (hl : 0 < l ∧ l ≤ 1000000) : zup u l = u.tdiv ((Int.gcd u l : Nat) : Int) ∧ zlow u l = l.tdiv ((Int.gcd u l : Nat) : Int) ∧ 0 < Int.gcd u l ∧ w64 (u.tdiv ((Int.gcd u l : Nat) : Int)) = u.tdiv ((Int.gcd u l : Nat) : Int) ∧ w64 (l.tdiv ((Int.gcd u l : Nat) : Int)) = l.tdiv ((Int.gcd u l : Nat) : Int) := by
  have ez : zabs u = (u.natAbs : Int) := by
    unfold zabs
    split
    · rw [w32_id (by omega) (by omega)]
      omega
    · omega
  have hz : zcd 100 (zabs u) l = ((Int.gcd u l : Nat) : Int) := by
    rw [ez, zcd_gcd 20 100 (by omega) (by omega) (small20 (by omega)) (by decide)]
    show ((Nat.gcd (u.natAbs : Int).natAbs l.natAbs : Nat) : Int) = ((Nat.gcd u.natAbs l.natAbs : Nat) : Int)
    rw [Int.natAbs_natCast]
  have hg : 0 < Int.gcd u l := Nat.gcd_pos_of_pos_right _ (by omega)
  have b1 := Int.natAbs_tdiv_le_natAbs u ((Int.gcd u l : Nat) : Int)
  have b2 := Int.natAbs_tdiv_le_natAbs l ((Int.gcd u l : Nat) : Int)
  refine ⟨?_, ?_, hg, w64_id (by omega) (by omega), w64_id (by omega) (by omega)⟩
  · unfold zup
    rw [hz, if_neg (by omega), w32_id (by omega) (by omega)]
  · unfold zlow
    rw [hz, if_neg (by omega), w32_id (by omega) (by omega)]
section MTP
variable {d n1 : Nat} {W V : Nat → Nat} {D E : DD} {lw : Int → Option (List Int)} {c : Cv}
theorem C_mtellPart {G : DD} {l : List Int} {u lo : Int} (hu : -1000000 ≤ u ∧ u ≤ 1000000) (hl : 0 < lo ∧ lo ≤ 1000000) (h : MTl E G l) (hn : l.length < 6) : Cl (d + 43) 0 0 mX10_tellPart [vr 152, vl u, vl lo] (G, rho n1 V) (KV (fun m => ∃ G', m = (G', rho n1 V) ∧ MTl E G' (l ++ [zup u lo] ++ [zlow u lo]))) := by
  obtain ⟨f1, f2, f3, f4, f5⟩ := zfrac hu hl
  rw [f1, f2]
  refine Cl_of mb_X10_tellPart (Nat.le_of_ble_eq_true rfl) (sg_X10_tellPart_0 (cL (C_mcommon 20 (d := d) (a := u) (b := lo) (small20 (by omega)) (by unfold r62; omega) (by unfold r62; omega)) ?_))
  rintro x m ⟨rfl, rfl⟩
  refine ⟨by omega, rfl, ?_⟩
  rw [f4]
  refine cV (C_mtl h (by omega)) ?_
  rintro m ⟨G1, rfl, g1⟩
  refine ⟨by omega, rfl, ?_⟩
  rw [f5]
  refine cV (C_mtl g1 (by rw [List.length_append, List.length_singleton]; omega)) ?_
  rintro m ⟨G2, rfl, g2⟩
  exact ⟨rfl, G2, rfl, g2⟩
end MTP
