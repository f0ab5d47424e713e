/-! ===== behind the last CELL: nothing moves ===== -/
/-- behind the last CELL: HEIGHTS of at most 999, FLOWS 0 -/
def BKr (n : Int) (r : Rv) : Prop := ∀ k, n < k → k < 20 → (0 ≤ r.1 k ∧ r.1 k ≤ 999) ∧ r.2.1 k = 0
def BK (c : Cv) (s : Sv) : Prop := BKr (cLast c) (sAl s) ∧ BKr (cLast c) (sAc s)
theorem zmv_far {n : Nat} {p : (Int → Int) × (Int → Int)} {k : Int} (h : (n : Int) < k) : (zmv n p).1 k = p.1 k ∧ (zmv n p).2 k = p.2 k := by
  induction n with
  | zero => exact ⟨rfl, rfl⟩
  | succ n ih =>
    obtain ⟨h1, h2⟩ := ih (by omega)
    rw [zmv_succ]
    refine ⟨?_, ?_⟩
    · show zmh _ _ _ k = _
      unfold zmh
      rw [zu_ne (by omega), zu_ne (by omega), h1]
    · show zmf _ _ _ k = _
      unfold zmf
      split
      · exact h2
      · rw [zu_ne (by omega), h2]
theorem zrow_BK {c : Cv} {push : Int} {r : Rv} (hc : COK c) (h : BKr (cLast c) r) : BKr (cLast c) (zrow c push r).2 := by
  have l0 := hc.1
  have l1 := hc.2.1
  intro k k0 k1
  obtain ⟨a1, a2⟩ := h k k0 k1
  have q := zmv_far (n := (cLast c).toNat) (p := (r.1, drv (cLast c) (cSet c 0) (dless (cSet c)) push r.1 r.2.1 (cHole c))) (k := k) (by omega)
  have e1 : (zrow c push r).2.1 k = r.1 k := by
    show zoh _ _ _ _ k = _
    unfold zoh
    rw [zu_ne (by omega), zu_ne (by omega)]
    exact q.1
  have e2 : (zrow c push r).2.2.1 k = r.2.1 k := by
    show (zmv _ _).2 k = _
    rw [q.2]
    exact if_neg (by omega)
  rw [e1, e2]
  exact ⟨a1, a2⟩
theorem ztick_BK {c : Cv} {pa pc : Int} {s : Sv} (hc : COK c) (h : BK c s) : BK c (ztick c pa pc s).2 := ⟨zrow_BK hc h.1, zrow_BK hc h.2⟩
theorem zwans_BK {c : Cv} {m : Int} {s : Sv} (h : BK c s) : BK c (zwans m s) := by
  unfold zwans
  split
  · exact h
  · exact h
theorem zcarry_BK {c : Cv} {L : Option (List Int)} {w : Wv} {i t : Int} {s : Sv} (hc : COK c) (h : BK c s) : BK c (zcarry c L w i t s).2 := by
  unfold zcarry
  split
  · exact ztick_BK hc (zwans_BK h)
  · exact ztick_BK hc (zwans_BK h)
theorem zrun_BK {cap : Nat} {c : Cv} {L : Option (List Int)} {w : Wv} {t : Int → Int} (hc : COK c) : ∀ {n : Nat} {i : Int} {z : Zr}, BK c (zS z) → BK c (zS (zrun cap c L w t n i z))
  | 0, _, _, h => h
  | n + 1, i, z, h => by
    rw [zrun_s]
    exact zrun_BK hc (zcarry_BK hc h)
theorem zfr_BK {n x : Int} (h0 : 0 ≤ x) (h1 : x ≤ 999) : BKr n (zfr x) := by
  intro k k0 k1
  by_cases g : 0 ≤ k
  · have e1 : (zfr x).1 k = x := if_pos ⟨g, k1⟩
    have e2 : (zfr x).2.1 k = 0 := if_pos ⟨g, k1⟩
    rw [e1, e2]
    exact ⟨⟨h0, h1⟩, rfl⟩
  · have e1 : (zfr x).1 k = 0 := if_neg (by omega)
    have e2 : (zfr x).2.1 k = 0 := if_neg (by omega)
    rw [e1, e2]
    exact ⟨⟨by decide, by decide⟩, rfl⟩
theorem zfresh_BK {c c' : Cv} {s : Sv} (hc : COK c) : BK c' (zfresh c s) := by
  obtain ⟨a1, a2, a3, a4, a5, a6, -⟩ := hc
  exact ⟨zfr_BK a5 (by omega), zfr_BK a5 (by omega)⟩
theorem zfresh_SOK {c : Cv} {s : Sv} (hc : COK c) : SOK (zfresh c s) := by
  obtain ⟨a1, a2, a3, a4, a5, a6, -⟩ := hc
  have h : HOK (zfr (cFill c)).1 := HOK_of (fun j j0 j1 => by
    have e1 : (zfr (cFill c)).1 j = cFill c := if_pos ⟨j0, j1⟩
    rw [e1]
    omega)
  exact ⟨h, h, by show (0 : Int) ≤ 0; decide⟩
theorem zleanr_BK {c : Cv} {t : Int} {r : Rv} (h : BKr (cLast c) r) : BKr (cLast c) (zleanr c t r) := by
  intro k k0 k1
  have e1 : (zleanr c t r).1 k = r.1 k := if_neg (by omega)
  have e2 : (zleanr c t r).2.1 k = 0 := by
    show cut 20 (fun _ => 0) k = 0
    unfold cut
    split <;> rfl
  rw [e1, e2]
  exact ⟨(h k k0 k1).1, rfl⟩
theorem zleanr_HOK {c : Cv} {t : Int} {r : Rv} (hc : COK c) (h : BKr (cLast c) r) : HOK (zleanr c t r).1 :=
  HOK_of (fun j j0 j1 => zlean_rng hc (fun z => (h j z j1).1) j0)
theorem zTilt_ok {c : Cv} {s : Sv} {r t : Int} (hc : COK c) (hs : SOK s) (h : BK c s) : SOK (zTilt c s r t) ∧ BK c (zTilt c s r t) := by
  unfold zTilt
  by_cases g : r = 0
  · rw [if_pos g]
    exact ⟨⟨zleanr_HOK hc h.1, hs.2.1, hs.2.2⟩, zleanr_BK h.1, h.2⟩
  · rw [if_neg g]
    exact ⟨⟨hs.1, zleanr_HOK hc h.2, hs.2.2⟩, h.1, zleanr_BK h.2⟩
/-! ===== signs: both texts' bytes ===== -/
theorem byte_and (b : BitVec 32) : (b &&& 255#32).toInt = ((b.toNat % 256 : Nat) : Int) := by
  have e : (b &&& 255#32).toNat = b.toNat % 256 := by
    rw [BitVec.toNat_and]
    exact Nat.and_two_pow_sub_one_eq_mod b.toNat 8
  rw [BitVec.toInt_eq_toNat_of_lt (by rw [e]; omega), e]
theorem bAnd_255 {y : Int} : bAnd y 255 = y % 256 := by
  show ((Int32.ofInt y &&& Int32.ofInt 255).toBitVec).toInt = _
  rw [Int32.toBitVec_and]
  show (BitVec.ofInt 32 y &&& 255#32).toInt = _
  rw [byte_and, BitVec.toNat_ofInt]
  omega
theorem ush_bv {v : Int} {k : Nat} {s : Int} (hk : k < 32) (h : ((Int32.ofInt s).toUInt32 &&& Int32.toUInt32 31).toBitVec.toNat % 32 = k) : (bUshr v s) % 4294967296 = (((BitVec.ofInt 32 v).toNat / 2 ^ k : Nat) : Int) := by
  unfold bUshr
  have e : ((Int32.ofInt v).toUInt32 >>> ((Int32.ofInt s).toUInt32 &&& Int32.toUInt32 31)).toNat = (BitVec.ofInt 32 v).toNat / 2 ^ k := by
    rw [UInt32.toNat_shiftRight]
    have e1 : ((Int32.ofInt s).toUInt32 &&& Int32.toUInt32 31).toNat % 32 = k := h
    rw [e1, Nat.shiftRight_eq_div_pow]
    rfl
  have e2 : (((Int32.ofInt v).toUInt32 >>> ((Int32.ofInt s).toUInt32 &&& Int32.toUInt32 31)).toInt32.toInt) % 4294967296 = ((((Int32.ofInt v).toUInt32 >>> ((Int32.ofInt s).toUInt32 &&& Int32.toUInt32 31)).toNat : Nat) : Int) := by
    generalize (Int32.ofInt v).toUInt32 >>> ((Int32.ofInt s).toUInt32 &&& Int32.toUInt32 31) = u
    show u.toBitVec.toInt % 4294967296 = ((u.toBitVec.toNat : Nat) : Int)
    rw [BitVec.toInt_eq_toNat_cond]
    have := u.toBitVec.isLt
    split <;> omega
  rw [e2, e]
theorem shr_bv {v : Int} (hv : w32 v = v) {k : Nat} {s : Int} (h : (BitVec.ofInt 32 s &&& 31#32).smod 32 = BitVec.ofNat 32 k) (hk : k < 32) : bShr v s = v / ((2 ^ k : Nat) : Int) := by
  show ((Int32.ofInt v >>> (Int32.ofInt s &&& 31)).toBitVec).toInt = _
  rw [Int32.toBitVec_shiftRight]
  show ((BitVec.ofInt 32 v).sshiftRight' ((BitVec.ofInt 32 s &&& 31#32).smod 32)).toInt = _
  rw [h, BitVec.sshiftRight_eq', BitVec.toInt_sshiftRight, Int.shiftRight_eq_div_pow]
  have e1 : (BitVec.ofInt 32 v).toInt = v := by
    rw [BitVec.toInt_ofInt, ← hv]
    rw [hv]
    exact (w32_bmod v).trans hv
  have e2 : (BitVec.ofNat 32 k).toNat = k := by
    rw [BitVec.toNat_ofNat]
    exact Nat.mod_eq_of_lt (by omega)
  rw [e1, e2]
theorem zbyte_is {v : Int} (hv : w32 v = v) {s : Int} (hs : s = 0 ∨ s = 8 ∨ s = 16 ∨ s = 24) : 0 ≤ zbyte v s ∧ zbyte v s ≤ 255 ∧ w8 (zbyte v s) = w8 (w8 (bShr v s)) := by
  have hz : zbyte v s = bUshr v s % 256 := bAnd_255
  have hn : (((BitVec.ofInt 32 v).toNat : Nat) : Int) = v % 4294967296 := by
    rw [BitVec.toNat_ofInt]
    omega
  have main : ∀ k : Nat, (k = 0 ∨ k = 8 ∨ k = 16 ∨ k = 24) → bUshr v s % 4294967296 = (((BitVec.ofInt 32 v).toNat / 2 ^ k : Nat) : Int) → bShr v s = v / ((2 ^ k : Nat) : Int) → 0 ≤ zbyte v s ∧ zbyte v s ≤ 255 ∧ w8 (zbyte v s) = w8 (w8 (bShr v s)) := by
    intro k hk h1 h2
    rw [hz, h2]
    unfold w8
    generalize bUshr v s = u at *
    rw [Int.natCast_ediv, hn] at h1
    rcases hk with rfl | rfl | rfl | rfl
    · rw [show (((2 ^ 0 : Nat)) : Int) = 1 from rfl] at h1 ⊢
      omega
    · rw [show (((2 ^ 8 : Nat)) : Int) = 256 from rfl] at h1 ⊢
      omega
    · rw [show (((2 ^ 16 : Nat)) : Int) = 65536 from rfl] at h1 ⊢
      omega
    · rw [show (((2 ^ 24 : Nat)) : Int) = 16777216 from rfl] at h1 ⊢
      omega
  rcases hs with rfl | rfl | rfl | rfl
  · exact main 0 (by decide) (ush_bv (by decide) (by decide)) (shr_bv hv (by decide) (by decide))
  · exact main 8 (by decide) (ush_bv (by decide) (by decide)) (shr_bv hv (by decide) (by decide))
  · exact main 16 (by decide) (ush_bv (by decide) (by decide)) (shr_bv hv (by decide) (by decide))
  · exact main 24 (by decide) (ush_bv (by decide) (by decide)) (shr_bv hv (by decide) (by decide))
