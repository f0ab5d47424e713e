/-! ===== what a run keeps: heights never negative, SPILT never falls, TICKS count ===== -/
theorem HOK_zmv {f : Int → Int} : ∀ {n : Nat} {h : Int → Int}, n ≤ 19 → HOK h → HOK (zmv n (h, f)).1
  | 0, _, _, hh => hh
  | n + 1, h, hn, hh => by
    rw [zmv_succ]
    exact HOK_zmh (HOK_zmv (by omega) hh) (by omega) (by omega)
theorem zov_rng {h : Int → Int} {rim lid c : Int} (hh : HOK h) (h0 : 0 ≤ c) (h1 : c < 20) (r0 : 1 ≤ rim) (r1 : rim ≤ 999) (l0 : 0 ≤ lid) (l1 : lid ≤ 100) : 0 ≤ zov h rim lid c ∧ zov h rim lid c ≤ h c := by
  obtain ⟨a0, a1⟩ := hh.at h0 h1
  unfold zov
  rw [w32_id (x := h c - rim) (by omega) (by omega)]
  by_cases e : 0 < h c - rim
  · rw [if_pos e]
    have p0 : 0 ≤ (h c - rim) * lid := Int.mul_nonneg (by omega) l0
    have p1 : (h c - rim) * lid ≤ (h c - rim) * 100 := Int.mul_le_mul_of_nonneg_left l1 (by omega)
    generalize (h c - rim) * lid = P at p0 p1 ⊢
    rw [w32_id (x := P) (by omega) (by omega), Int.tdiv_eq_ediv_of_nonneg p0, w32_id (x := P / 100) (by omega) (by omega), w32_id (by omega) (by omega)]
    omega
  · rw [if_neg e]
    omega
theorem HOK_zoh {h : Int → Int} {rim lid c : Int} (hh : HOK h) (h0 : 0 ≤ c) (h1 : c < 20) (r0 : 1 ≤ rim) (r1 : rim ≤ 999) (l0 : 0 ≤ lid) (l1 : lid ≤ 100) : HOK (zoh h rim lid c) := by
  obtain ⟨v0, v1⟩ := zov_rng hh h0 h1 r0 r1 l0 l1
  obtain ⟨a0, a1⟩ := hh.at h0 h1
  have sum := hh.2
  unfold zoh
  rw [w32_id (x := h c - zov h rim lid c) (by omega) (by omega)]
  refine ⟨fun j q0 q1 => ?_, ?_⟩
  · by_cases e : j = c
    · rw [e, zu_at]; omega
    · rw [zu_ne e]; exact hh.1 j q0 q1
  · rw [zsum_zu h0, if_pos (by omega)]
    omega
theorem zrow_phys {c : Cv} {push : Int} {r : Rv} (hc : COK c) (hh : HOK r.1) : HOK (zrow c push r).2.1 ∧ 0 ≤ (zrow c push r).1 ∧ (zrow c push r).1 ≤ 40000 := by
  obtain ⟨l0, l1, r0, r1, f0, f1, s0, s1, s2, s3, s4, s5, s6, ho⟩ := hc
  unfold zrow zpass
  dsimp only
  have k0 := HOK_zmv (n := (cLast c).toNat) (f := drv (cLast c) (cSet c 0) (dless (cSet c)) push r.1 r.2.1 (cHole c)) (by omega) hh
  generalize (zmv (cLast c).toNat (r.1, drv (cLast c) (cSet c 0) (dless (cSet c)) push r.1 r.2.1 (cHole c))).1 = h1 at k0
  have k1 := HOK_zoh (c := 0) k0 (by decide) (by decide) r0 r1 s4.1 s4.2
  have k2 := HOK_zoh (c := cLast c) k1 (by omega) (by omega) r0 r1 s4.1 s4.2
  obtain ⟨a0, a1⟩ := zov_rng (c := 0) k0 (by decide) (by decide) r0 r1 s4.1 s4.2
  obtain ⟨b0, b1⟩ := zov_rng (c := cLast c) k1 (by omega) (by omega) r0 r1 s4.1 s4.2
  obtain ⟨e0, e1⟩ := k0.at (j := 0) (by decide) (by decide)
  obtain ⟨g0, g1⟩ := k1.at (j := cLast c) (by omega) (by omega)
  refine ⟨k2, ?_⟩
  rw [w32_id (by omega) (by omega)]
  omega
theorem ztick_phys {c : Cv} {pa pc : Int} {s : Sv} (hc : COK c) (hs : SOK s) (ht : sTick s < 2147483647) : SOK (ztick c pa pc s).2 ∧ 0 ≤ (ztick c pa pc s).1 ∧ (ztick c pa pc s).1 ≤ 80000 ∧ sTick (ztick c pa pc s).2 = sTick s + 1 := by
  obtain ⟨h0, h1, h2⟩ := hs
  obtain ⟨a0, a1, a2⟩ := zrow_phys (push := pa) hc h0
  obtain ⟨b0, b1, b2⟩ := zrow_phys (push := pc) hc h1
  have et : sTick (ztick c pa pc s).2 = sTick s + 1 := w32_id (by omega) (by omega)
  refine ⟨⟨a0, b0, by rw [et]; omega⟩, ?_, ?_, et⟩
  · show 0 ≤ w32 _
    rw [w32_id (by omega) (by omega)]
    omega
  · show w32 _ ≤ 80000
    rw [w32_id (by omega) (by omega)]
    omega
theorem zwans_tick {m : Int} {s : Sv} : sTick (zwans m s) = sTick s := by
  unfold zwans
  split <;> rfl
theorem zwans_SOK {m : Int} {s : Sv} (h : SOK s) : SOK (zwans m s) := by
  unfold zwans
  split
  · exact h
  · exact h
theorem zcarry_phys {c : Cv} {L : Option (List Int)} {w : Wv} {i t : Int} {s : Sv} (hc : COK c) (hs : SOK s) (ht : sTick s < 2147483647) : SOK (zcarry c L w i t s).2 ∧ 0 ≤ (zcarry c L w i t s).1 ∧ (zcarry c L w i t s).1 ≤ 80000 ∧ sTick (zcarry c L w i t s).2 = sTick s + 1 := by
  unfold zcarry
  split
  · have := ztick_phys (pa := zgiven c L (zwans (wWan w i) s) (w32 (wAl w i + zwan (wWan w i) s))) (pc := wAc w i) hc (zwans_SOK (m := wWan w i) hs) (by rw [zwans_tick]; exact ht)
    rw [zwans_tick] at this
    exact this
  · have := ztick_phys (pc := zgiven c L (zwans (wWan w i) s) (w32 (wAl w i + zwan (wWan w i) s))) (pa := wAc w i) hc (zwans_SOK (m := wWan w i) hs) (by rw [zwans_tick]; exact ht)
    rw [zwans_tick] at this
    exact this
/-- a run as it may be -/
def ZOK (z : Zr) : Prop := SOK (zS z) ∧ 0 ≤ zSum z
theorem znote_phys {cap : Nat} {c : Cv} {x : Int × Sv} {z : Zr} (hz : 0 ≤ zSum z) (hs : zSum z < 2000000000) (h0 : SOK x.2) (h1 : 0 ≤ x.1) (h2 : x.1 ≤ 80000) : ZOK (znote cap c x z) ∧ zSum (znote cap c x z) = zSum z + x.1 := by
  have e : zSum (znote cap c x z) = zSum z + x.1 := w32_id (by omega) (by omega)
  exact ⟨⟨h0, by rw [e]; omega⟩, e⟩
theorem zrun_phys {cap : Nat} {c : Cv} {L : Option (List Int)} {w : Wv} {t : Int → Int} (hc : COK c) : ∀ {n : Nat} {i : Int} {z : Zr}, ZOK z → zSum z + 80000 * (n : Int) < 2000000000 → sTick (zS z) + n < 2147483647 →
    ZOK (zrun cap c L w t n i z) ∧ zSum z ≤ zSum (zrun cap c L w t n i z) ∧ zSum (zrun cap c L w t n i z) ≤ zSum z + 80000 * (n : Int) ∧ sTick (zS (zrun cap c L w t n i z)) = sTick (zS z) + n
  | 0, i, z, hz, _, _ => by
    rw [zrun_0]
    exact ⟨hz, by omega, by omega, by omega⟩
  | n + 1, i, z, hz, hb, ht => by
    have t0 := hz.1.2.2
    obtain ⟨a0, a1, a2, a3⟩ := zcarry_phys (L := L) (w := w) (i := i) (t := t i) hc hz.1 (by omega)
    obtain ⟨b0, b1⟩ := znote_phys (cap := cap) (c := c) hz.2 (by omega) a0 a1 a2
    have b2 : sTick (zS (znote cap c (zcarry c L w i (t i) (zS z)) z)) = sTick (zS z) + 1 := a3
    obtain ⟨c0, c1, c2, c3⟩ := zrun_phys (cap := cap) (L := L) (w := w) (t := t) hc (n := n) (i := i + 1) b0 (by omega) (by omega)
    rw [zrun_s]
    exact ⟨c0, by omega, by omega, by omega⟩
/-- lists that don't come to their end -/
theorem zrun_len {cap : Nat} {c : Cv} {L : Option (List Int)} {w : Wv} {t : Int → Int} : ∀ {n : Nat} {i : Int} {z : Zr}, (zList (zrun cap c L w t n i z)).length ≤ (zList z).length + n
  | 0, _, _ => Nat.le_refl _
  | n + 1, i, z => by
    rw [zrun_s]
    refine Nat.le_trans (zrun_len (n := n)) ?_
    have : (zList (znote cap c (zcarry c L w i (t i) (zS z)) z)).length ≤ (zList z).length + 1 := by
      show (if _ then zList z ++ [_] else zList z).length ≤ _
      split
      · rw [List.length_append, List.length_singleton]; omega
      · omega
    omega
theorem zrun_cap {cap cap' : Nat} {c : Cv} {L : Option (List Int)} {w : Wv} {t : Int → Int} : ∀ {n : Nat} {i : Int} {z : Zr}, (zList z).length + n ≤ cap → (zList z).length + n ≤ cap' → zrun cap c L w t n i z = zrun cap' c L w t n i z
  | 0, _, _, _, _ => rfl
  | n + 1, i, z, h, h' => by
    have e : znote cap c (zcarry c L w i (t i) (zS z)) z = znote cap' c (zcarry c L w i (t i) (zS z)) z := by
      unfold znote
      by_cases q : 0 < (zcarry c L w i (t i) (zS z)).1
      · rw [if_pos (show 0 < (zcarry c L w i (t i) (zS z)).1 ∧ (zList z).length < cap from ⟨q, by omega⟩), if_pos (show 0 < (zcarry c L w i (t i) (zS z)).1 ∧ (zList z).length < cap' from ⟨q, by omega⟩)]
      · rw [if_neg (show ¬ (0 < (zcarry c L w i (t i) (zS z)).1 ∧ (zList z).length < cap) from fun y => q y.1), if_neg (show ¬ (0 < (zcarry c L w i (t i) (zS z)).1 ∧ (zList z).length < cap') from fun y => q y.1)]
    have hl : (zList (znote cap' c (zcarry c L w i (t i) (zS z)) z)).length ≤ (zList z).length + 1 := by
      show (if _ then zList z ++ [_] else zList z).length ≤ _
      split
      · rw [List.length_append, List.length_singleton]; omega
      · omega
    rw [zrun_s, zrun_s, e]
    exact zrun_cap (by omega) (by omega)
/-- the run at its start -/
def zbeg (c : Cv) (s : Sv) (seed : Int) : Zr := ((0, seed, (zfresh c s).2.2), 0, -1, 0, 0, [])
theorem zsum_const {x : Int} : ∀ n : Nat, n ≤ 20 → zsum n (cut 20 (fun _ => x)) = n * x
  | 0, _ => by
    rw [show ((0 : Nat) : Int) * x = 0 by simp]
    rfl
  | n + 1, h => by
    show zsum n _ + cut 20 (fun _ => x) n = _
    rw [zsum_const n (by omega), cut_in (by omega) (by omega), show ((n + 1 : Nat) : Int) = n + 1 by omega, Int.add_mul, Int.one_mul]
theorem HOK_fresh {x : Int} (h0 : 0 ≤ x) (h1 : x ≤ 999) : HOK (cut 20 (fun _ => x)) := by
  refine ⟨fun j q0 q1 => by rw [cut_in q0 q1]; exact h0, ?_⟩
  rw [zsum_const 20 (by decide)]
  omega
theorem zbeg_ok {c : Cv} {s : Sv} {seed : Int} (hc : COK c) : ZOK (zbeg c s seed) := by
  obtain ⟨l0, l1, r0, r1, f0, f1, s0⟩ := hc
  exact ⟨⟨HOK_fresh f0 (by omega), HOK_fresh f0 (by omega), Int.le_refl 0⟩, Int.le_refl 0⟩
