theorem Wp.branch {d bc bs : Nat} {M : MI} {pc p1 p2 : Nat} {ls : List (Option AV)} {st st' : List AV} {μ : Mem} {Q : Option (Option AV) → Mem → Prop} {P : Prop} [Decidable P]
    (f : ∀ {p : Program} {l : Launch} {e : Env} {R : Room} {s : State} {m : MethodId} {args : Array Value} {below : List Frame} {meth : Method} {c : Code} {H : Heap} {locs : List Loc} {cells slots : Nat} {Qf : State → Prop} {G : GT} {lm : Array Slot},
      Cx d M G p l R s m args meth c → oks st → (P → W p l e R s m args below meth c H locs cells slots Qf (F0 m p1 lm (st'.map (toV (gad G))))) → (¬ P → W p l e R s m args below meth c H locs cells slots Qf (F0 m p2 lm (st'.map (toV (gad G))))) → W p l e R s m args below meth c H locs cells slots Qf (F0 m pc lm (st.map (toV (gad G)))))
    (ho : oks st → oks st') (k1 : P → Wp d bc bs M p1 ls st' μ Q) (k2 : ¬ P → Wp d bc bs M p2 ls st' μ Q) : Wp d bc bs M pc ls st μ Q := by
  intro p l e R s m args below meth c H locs cells slots Qf G lm hC hR hL hs hc hsl hE
  exact f hC hs (fun h => k1 h p l e R s m args below meth c H locs cells slots Qf G lm hC hR hL (ho hs) hc hsl hE) (fun h => k2 h p l e R s m args below meth c H locs cells slots Qf G lm hC hR hL (ho hs) hc hsl hE)
theorem i_of0 : (0 : Int32) = Int32.ofInt 0 := i_0
section PURE2
variable {d bc bs : Nat} {M : MI} {pc : Nat} {ls : List (Option AV)} {st : List AV} {μ : Mem} {Q : Option (Option AV) → Mem → Prop}

theorem st_ifeq {x : Int} {off : Int} {tgt : Nat} (hd : decode (mcd M) pc = .ok (.ifCond .eq off, 3)) (ht : (pc : Int) + off = (tgt : Int)) (k1 : x = 0 → Wp d bc bs M tgt ls st μ Q) (k2 : ¬ x = 0 → Wp d bc bs M (pc + 3) ls st μ Q) : Wp d bc bs M pc ls (vi x :: st) μ Q :=
  Wp.branch (P := x = 0) (fun hC h w1 w2 => lv_if_eq hC.1 hC.2.1 hd ht (fun z => w1 ((i_eq (oks_h h) r32_0).mp (by rw [← i_0]; exact z))) (fun z => w2 (fun q => z (by rw [i_0]; exact (i_eq (oks_h h) r32_0).mpr q)))) oks_t k1 k2

theorem st_iflt {x : Int} {off : Int} {tgt : Nat} (hd : decode (mcd M) pc = .ok (.ifCond .lt off, 3)) (ht : (pc : Int) + off = (tgt : Int)) (k1 : x < 0 → Wp d bc bs M tgt ls st μ Q) (k2 : ¬ x < 0 → Wp d bc bs M (pc + 3) ls st μ Q) : Wp d bc bs M pc ls (vi x :: st) μ Q :=
  Wp.branch (P := x < 0) (fun hC h w1 w2 => lv_if_lt hC.1 hC.2.1 hd ht (fun z => w1 ((i_lt (oks_h h) r32_0).mp (by rw [← i_0]; exact z))) (fun z => w2 (fun q => z (by rw [i_0]; exact (i_lt (oks_h h) r32_0).mpr q)))) oks_t k1 k2

theorem st_ifge {x : Int} {off : Int} {tgt : Nat} (hd : decode (mcd M) pc = .ok (.ifCond .ge off, 3)) (ht : (pc : Int) + off = (tgt : Int)) (k1 : 0 ≤ x → Wp d bc bs M tgt ls st μ Q) (k2 : ¬ 0 ≤ x → Wp d bc bs M (pc + 3) ls st μ Q) : Wp d bc bs M pc ls (vi x :: st) μ Q :=
  Wp.branch (P := 0 ≤ x) (fun hC h w1 w2 => lv_if_ge hC.1 hC.2.1 hd ht (fun z => w1 ((i_le r32_0 (oks_h h)).mp (by rw [← i_0]; exact z))) (fun z => w2 (fun q => z (by rw [i_0]; exact (i_le r32_0 (oks_h h)).mpr q)))) oks_t k1 k2

theorem st_ifgt {x : Int} {off : Int} {tgt : Nat} (hd : decode (mcd M) pc = .ok (.ifCond .gt off, 3)) (ht : (pc : Int) + off = (tgt : Int)) (k1 : 0 < x → Wp d bc bs M tgt ls st μ Q) (k2 : ¬ 0 < x → Wp d bc bs M (pc + 3) ls st μ Q) : Wp d bc bs M pc ls (vi x :: st) μ Q :=
  Wp.branch (P := 0 < x) (fun hC h w1 w2 => lv_if_gt hC.1 hC.2.1 hd ht (fun z => w1 ((i_lt r32_0 (oks_h h)).mp (by rw [← i_0]; exact z))) (fun z => w2 (fun q => z (by rw [i_0]; exact (i_lt r32_0 (oks_h h)).mpr q)))) oks_t k1 k2

theorem st_ifle {x : Int} {off : Int} {tgt : Nat} (hd : decode (mcd M) pc = .ok (.ifCond .le off, 3)) (ht : (pc : Int) + off = (tgt : Int)) (k1 : x ≤ 0 → Wp d bc bs M tgt ls st μ Q) (k2 : ¬ x ≤ 0 → Wp d bc bs M (pc + 3) ls st μ Q) : Wp d bc bs M pc ls (vi x :: st) μ Q :=
  Wp.branch (P := x ≤ 0) (fun hC h w1 w2 => lv_if_le hC.1 hC.2.1 hd ht (fun z => w1 ((i_le (oks_h h) r32_0).mp (by rw [← i_0]; exact z))) (fun z => w2 (fun q => z (by rw [i_0]; exact (i_le (oks_h h) r32_0).mpr q)))) oks_t k1 k2

theorem st_ifne {x : Int} {off : Int} {tgt : Nat} (hd : decode (mcd M) pc = .ok (.ifCond .ne off, 3)) (ht : (pc : Int) + off = (tgt : Int)) (k1 : ¬ x = 0 → Wp d bc bs M tgt ls st μ Q) (k2 : x = 0 → Wp d bc bs M (pc + 3) ls st μ Q) : Wp d bc bs M pc ls (vi x :: st) μ Q :=
  Wp.branch (P := ¬ x = 0) (fun hC h w1 w2 => lv_if_ne hC.1 hC.2.1 hd ht (fun z => w1 (fun q => z (by rw [i_0]; exact (i_eq (oks_h h) r32_0).mpr q))) (fun z => w2 (fun q => q ((i_eq (oks_h h) r32_0).mp (by rw [← i_0]; exact z))))) oks_t k1 (fun q => k2 (Decidable.not_not.mp q))

theorem st_icmpeq {x y : Int} {off : Int} {tgt : Nat} (hd : decode (mcd M) pc = .ok (.if_icmp .eq off, 3)) (ht : (pc : Int) + off = (tgt : Int)) (k1 : x = y → Wp d bc bs M tgt ls st μ Q) (k2 : ¬ x = y → Wp d bc bs M (pc + 3) ls st μ Q) : Wp d bc bs M pc ls (vi y :: vi x :: st) μ Q :=
  Wp.branch (P := x = y) (fun hC h w1 w2 => lv_icmp_eq hC.1 hC.2.1 hd ht (fun z => w1 ((i_eq (oks_h (oks_t h)) (oks_h h)).mp z)) (fun z => w2 (fun q => z ((i_eq (oks_h (oks_t h)) (oks_h h)).mpr q)))) (fun h => oks_t (oks_t h)) k1 k2

theorem st_icmplt {x y : Int} {off : Int} {tgt : Nat} (hd : decode (mcd M) pc = .ok (.if_icmp .lt off, 3)) (ht : (pc : Int) + off = (tgt : Int)) (k1 : x < y → Wp d bc bs M tgt ls st μ Q) (k2 : ¬ x < y → Wp d bc bs M (pc + 3) ls st μ Q) : Wp d bc bs M pc ls (vi y :: vi x :: st) μ Q :=
  Wp.branch (P := x < y) (fun hC h w1 w2 => lv_icmp_lt hC.1 hC.2.1 hd ht (fun z => w1 ((i_lt (oks_h (oks_t h)) (oks_h h)).mp z)) (fun z => w2 (fun q => z ((i_lt (oks_h (oks_t h)) (oks_h h)).mpr q)))) (fun h => oks_t (oks_t h)) k1 k2

theorem st_icmpge {x y : Int} {off : Int} {tgt : Nat} (hd : decode (mcd M) pc = .ok (.if_icmp .ge off, 3)) (ht : (pc : Int) + off = (tgt : Int)) (k1 : y ≤ x → Wp d bc bs M tgt ls st μ Q) (k2 : ¬ y ≤ x → Wp d bc bs M (pc + 3) ls st μ Q) : Wp d bc bs M pc ls (vi y :: vi x :: st) μ Q :=
  Wp.branch (P := y ≤ x) (fun hC h w1 w2 => lv_icmp_ge hC.1 hC.2.1 hd ht (fun z => w1 ((i_le (oks_h h) (oks_h (oks_t h))).mp z)) (fun z => w2 (fun q => z ((i_le (oks_h h) (oks_h (oks_t h))).mpr q)))) (fun h => oks_t (oks_t h)) k1 k2

theorem st_icmpgt {x y : Int} {off : Int} {tgt : Nat} (hd : decode (mcd M) pc = .ok (.if_icmp .gt off, 3)) (ht : (pc : Int) + off = (tgt : Int)) (k1 : y < x → Wp d bc bs M tgt ls st μ Q) (k2 : ¬ y < x → Wp d bc bs M (pc + 3) ls st μ Q) : Wp d bc bs M pc ls (vi y :: vi x :: st) μ Q :=
  Wp.branch (P := y < x) (fun hC h w1 w2 => lv_icmp_gt hC.1 hC.2.1 hd ht (fun z => w1 ((i_lt (oks_h h) (oks_h (oks_t h))).mp z)) (fun z => w2 (fun q => z ((i_lt (oks_h h) (oks_h (oks_t h))).mpr q)))) (fun h => oks_t (oks_t h)) k1 k2

theorem st_icmple {x y : Int} {off : Int} {tgt : Nat} (hd : decode (mcd M) pc = .ok (.if_icmp .le off, 3)) (ht : (pc : Int) + off = (tgt : Int)) (k1 : x ≤ y → Wp d bc bs M tgt ls st μ Q) (k2 : ¬ x ≤ y → Wp d bc bs M (pc + 3) ls st μ Q) : Wp d bc bs M pc ls (vi y :: vi x :: st) μ Q :=
  Wp.branch (P := x ≤ y) (fun hC h w1 w2 => lv_icmp_le hC.1 hC.2.1 hd ht (fun z => w1 ((i_le (oks_h (oks_t h)) (oks_h h)).mp z)) (fun z => w2 (fun q => z ((i_le (oks_h (oks_t h)) (oks_h h)).mpr q)))) (fun h => oks_t (oks_t h)) k1 k2

theorem st_icmpne {x y : Int} {off : Int} {tgt : Nat} (hd : decode (mcd M) pc = .ok (.if_icmp .ne off, 3)) (ht : (pc : Int) + off = (tgt : Int)) (k1 : ¬ x = y → Wp d bc bs M tgt ls st μ Q) (k2 : x = y → Wp d bc bs M (pc + 3) ls st μ Q) : Wp d bc bs M pc ls (vi y :: vi x :: st) μ Q :=
  Wp.branch (P := ¬ x = y) (fun hC h w1 w2 => lv_icmp_ne hC.1 hC.2.1 hd ht (fun z => w1 (fun q => z ((i_eq (oks_h (oks_t h)) (oks_h h)).mpr q))) (fun z => w2 (fun q => q ((i_eq (oks_h (oks_t h)) (oks_h h)).mp z)))) (fun h => oks_t (oks_t h)) k1 (fun q => k2 (Decidable.not_not.mp q))
theorem st_goto {off : Int} {tgt : Nat} (hd : decode (mcd M) pc = .ok (.goto off, 3)) (ht : (pc : Int) + off = (tgt : Int)) (k : Wp d bc bs M tgt ls st μ Q) : Wp d bc bs M pc ls st μ Q :=
  Wp.step (fun hC _ _ _ w => lv_goto hC.1 hC.2.1 hd ht w) (fun _ _ h => h) k
theorem st_ifnull {r : Nat} {off : Int} {tgt : Nat} (hd : decode (mcd M) pc = .ok (.ifnull off, 3)) (ht : (pc : Int) + off = (tgt : Int)) (k1 : r = 0 → Wp d bc bs M tgt ls st μ Q) (k2 : ¬ r = 0 → Wp d bc bs M (pc + 3) ls st μ Q) : Wp d bc bs M pc ls (vr r :: st) μ Q := by
  refine Wp.branch (P := r = 0) (fun {p l e R s m args below meth c H locs cells slots Qf G lm} hC h w1 w2 => ?_) oks_t k1 k2
  by_cases z : r = 0
  · have w := w1 z
    subst z
    exact lv_ifnullN hC.1 hC.2.1 hd ht w
  · rw [List.map_cons, show toV (gad G) (vr r) = .ref (gad G r) from if_neg z]
    exact lv_ifnull hC.1 hC.2.1 hd (w2 z)
theorem st_ifnonnull {r : Nat} {off : Int} {tgt : Nat} (hd : decode (mcd M) pc = .ok (.ifnonnull off, 3)) (ht : (pc : Int) + off = (tgt : Int)) (k1 : ¬ r = 0 → Wp d bc bs M tgt ls st μ Q) (k2 : r = 0 → Wp d bc bs M (pc + 3) ls st μ Q) : Wp d bc bs M pc ls (vr r :: st) μ Q := by
  refine Wp.branch (P := ¬ r = 0) (fun {p l e R s m args below meth c H locs cells slots Qf G lm} hC h w1 w2 => ?_) oks_t k1 (fun q => k2 (Decidable.not_not.mp q))
  by_cases z : r = 0
  · have w := w2 (fun q => q z)
    subst z
    exact lv_ifnonnullN hC.1 hC.2.1 hd w
  · rw [List.map_cons, show toV (gad G) (vr r) = .ref (gad G r) from if_neg z]
    exact lv_ifnonnull hC.1 hC.2.1 hd ht (w1 z)
def bAnd (x y : Int) : Int := (Int32.ofInt x &&& Int32.ofInt y).toInt
def bOr (x y : Int) : Int := (Int32.ofInt x ||| Int32.ofInt y).toInt
def bShl (x y : Int) : Int := (Int32.ofInt x <<< (Int32.ofInt y &&& 31)).toInt
def bShr (x y : Int) : Int := (Int32.ofInt x >>> (Int32.ofInt y &&& 31)).toInt
def bUshr (x y : Int) : Int := ((Int32.ofInt x).toUInt32 >>> ((Int32.ofInt y).toUInt32 &&& Int32.toUInt32 31)).toInt32.toInt
theorem st_iand {x y : Int} (hd : decode (mcd M) pc = .ok (.iand, 1)) (k : Wp d bc bs M (pc + 1) ls (vi (bAnd x y) :: st) μ Q) : Wp d bc bs M pc ls (vi y :: vi x :: st) μ Q :=
  Wp.step (fun hC _ _ _ w => lv_iand hC.1 hC.2.1 hd (by rw [← Int32.ofInt_toInt (Int32.ofInt x &&& Int32.ofInt y)]; exact w)) (fun _ _ h => oks_i (i_r _) (oks_t (oks_t h))) k
theorem st_ior {x y : Int} (hd : decode (mcd M) pc = .ok (.ior, 1)) (k : Wp d bc bs M (pc + 1) ls (vi (bOr x y) :: st) μ Q) : Wp d bc bs M pc ls (vi y :: vi x :: st) μ Q :=
  Wp.step (fun hC _ _ _ w => lv_ior hC.1 hC.2.1 hd (by rw [← Int32.ofInt_toInt (Int32.ofInt x ||| Int32.ofInt y)]; exact w)) (fun _ _ h => oks_i (i_r _) (oks_t (oks_t h))) k
theorem st_ishl {x y : Int} (hd : decode (mcd M) pc = .ok (.ishl, 1)) (k : Wp d bc bs M (pc + 1) ls (vi (bShl x y) :: st) μ Q) : Wp d bc bs M pc ls (vi y :: vi x :: st) μ Q :=
  Wp.step (fun hC _ _ _ w => lv_ishl hC.1 hC.2.1 hd (by rw [← Int32.ofInt_toInt (Int32.ofInt x <<< (Int32.ofInt y &&& 31))]; exact w)) (fun _ _ h => oks_i (i_r _) (oks_t (oks_t h))) k
theorem st_ishr {x y : Int} (hd : decode (mcd M) pc = .ok (.ishr, 1)) (k : Wp d bc bs M (pc + 1) ls (vi (bShr x y) :: st) μ Q) : Wp d bc bs M pc ls (vi y :: vi x :: st) μ Q :=
  Wp.step (fun hC _ _ _ w => lv_ishr hC.1 hC.2.1 hd (by rw [← Int32.ofInt_toInt (Int32.ofInt x >>> (Int32.ofInt y &&& 31))]; exact w)) (fun _ _ h => oks_i (i_r _) (oks_t (oks_t h))) k
theorem st_iushr {x y : Int} (hd : decode (mcd M) pc = .ok (.iushr, 1)) (k : Wp d bc bs M (pc + 1) ls (vi (bUshr x y) :: st) μ Q) : Wp d bc bs M pc ls (vi y :: vi x :: st) μ Q :=
  Wp.step (fun hC _ _ _ w => lv_iushr hC.1 hC.2.1 hd (Int32.ofInt_toInt _).symm w) (fun _ _ h => oks_i (i_r _) (oks_t (oks_t h))) k
theorem i_2l {x : Int} (h : r32 x) : (Int32.ofInt x).toInt64 = Int64.ofInt x := by
  refine (l_of ?_).symm
  rw [Int32.toInt_toInt64, i_to h]
theorem i_2b {x : Int} (h : r32 x) : (Int32.ofInt x).toInt8.toInt32 = Int32.ofInt (w8 x) := by
  refine (i_of ?_).symm
  rw [Int8.toInt_toInt32, Int32.toInt_toInt8, i_to h]
  unfold Int.bmod w8
  have e : ((2 ^ 8 : Nat) : Int) = 256 := rfl
  rw [e]
  dsimp only
  split <;> omega
theorem i_2s {x : Int} (h : r32 x) : (Int32.ofInt x).toInt16.toInt32 = Int32.ofInt (w16 x) := by
  refine (i_of ?_).symm
  rw [Int16.toInt_toInt32, Int32.toInt_toInt16, i_to h]
  unfold Int.bmod w16
  have e : ((2 ^ 16 : Nat) : Int) = 65536 := rfl
  rw [e]
  dsimp only
  split <;> omega
theorem i_bv (x : Int) : (Int32.ofInt x).toBitVec.toNat = (x % 4294967296).toNat := by
  show (BitVec.ofInt 32 x).toNat = _
  rw [BitVec.toNat_ofInt]
  rfl
theorem nI_of' (n : Nat) : nI n = Int32.ofInt n := (Int32.ofInt_eq_ofNat).symm
theorem i_2c {x : Int} : ((Int32.ofInt x).toUInt32 % 65536).toInt32 = Int32.ofInt (x % 65536) := by
  rw [pk_char, i_bv, nI_of']
  congr 1
  omega
theorem st_i2l {x : Int} (hd : decode (mcd M) pc = .ok (.i2l, 1)) (k : Wp d bc bs M (pc + 1) ls (vl x :: st) μ Q) : Wp d bc bs M pc ls (vi x :: st) μ Q :=
  Wp.step (fun hC _ _ h w => lv_i2l hC.1 hC.2.1 hd (i_2l (oks_h h)) w) (fun _ _ h => oks_l (by have := oks_h h; unfold okv r32 at this; unfold r64; dsimp only at this; omega) (oks_t h)) k
theorem st_i2b {x : Int} (hd : decode (mcd M) pc = .ok (.i2b, 1)) (k : Wp d bc bs M (pc + 1) ls (vi (w8 x) :: st) μ Q) : Wp d bc bs M pc ls (vi x :: st) μ Q :=
  Wp.step (fun hC _ _ h w => lv_i2b hC.1 hC.2.1 hd (i_2b (oks_h h)) w) (fun _ _ h => oks_i (w8_r _) (oks_t h)) k
theorem st_i2s {x : Int} (hd : decode (mcd M) pc = .ok (.i2s, 1)) (k : Wp d bc bs M (pc + 1) ls (vi (w16 x) :: st) μ Q) : Wp d bc bs M pc ls (vi x :: st) μ Q :=
  Wp.step (fun hC _ _ h w => lv_i2s hC.1 hC.2.1 hd (i_2s (oks_h h)) w) (fun _ _ h => oks_i (w16_r _) (oks_t h)) k
theorem st_i2c {x : Int} (hd : decode (mcd M) pc = .ok (.i2c, 1)) (k : Wp d bc bs M (pc + 1) ls (vi (x % 65536) :: st) μ Q) : Wp d bc bs M pc ls (vi x :: st) μ Q :=
  Wp.step (fun hC _ _ h w => lv_i2c hC.1 hC.2.1 hd i_2c w) (fun _ _ h => oks_i (by unfold r32; omega) (oks_t h)) k
theorem st_lconst {n : Fin 2} {x : Int} (hd : decode (mcd M) pc = .ok (.lconst n, 1)) (hv : Int64.ofNat (n : Nat) = Int64.ofInt x) (hx : r64 x) (k : Wp d bc bs M (pc + 1) ls (vl x :: st) μ Q) : Wp d bc bs M pc ls st μ Q :=
  Wp.step (fun hC _ _ _ w => lv_lconst hC.1 hC.2.1 hd hv w) (fun _ _ h => oks_l hx h) k
theorem st_ladd {x y : Int} (hd : decode (mcd M) pc = .ok (.ladd, 1)) (k : Wp d bc bs M (pc + 1) ls (vl (w64 (x + y)) :: st) μ Q) : Wp d bc bs M pc ls (vl y :: vl x :: st) μ Q :=
  Wp.step (fun hC _ _ _ w => lv_ladd hC.1 hC.2.1 hd (by rw [l_add]; exact w)) (fun _ _ h => oks_l (w64_r _) (oks_t (oks_t h))) k
theorem st_lmul {x y : Int} (hd : decode (mcd M) pc = .ok (.lmul, 1)) (k : Wp d bc bs M (pc + 1) ls (vl (w64 (x * y)) :: st) μ Q) : Wp d bc bs M pc ls (vl y :: vl x :: st) μ Q :=
  Wp.step (fun hC _ _ _ w => lv_lmul hC.1 hC.2.1 hd (by rw [l_mul]; exact w)) (fun _ _ h => oks_l (w64_r _) (oks_t (oks_t h))) k
theorem st_ldiv {x y : Int} (hd : decode (mcd M) pc = .ok (.ldiv, 1)) (hy : y ≠ 0) (k : Wp d bc bs M (pc + 1) ls (vl (w64 (x.tdiv y)) :: st) μ Q) : Wp d bc bs M pc ls (vl y :: vl x :: st) μ Q :=
  Wp.step (fun hC _ _ h w => lv_ldiv hC.1 hC.2.1 hd (l_ne0 (oks_h h) hy) (by rw [l_div (oks_h (oks_t h)) (oks_h h)]; exact w)) (fun _ _ h => oks_l (w64_r _) (oks_t (oks_t h))) k
theorem l_sub (x y : Int) : Int64.ofInt x - Int64.ofInt y = Int64.ofInt (w64 (x - y)) := by
  rw [← Int64.ofInt_sub]; exact (l_of (l_tw (x - y))).symm
theorem l_eq {x y : Int} (hx : r64 x) (hy : r64 y) : Int64.ofInt x = Int64.ofInt y ↔ x = y :=
  ⟨fun h => by rw [← l_to hx, ← l_to hy, h], fun h => by rw [h]⟩
theorem l_lt {x y : Int} (hx : r64 x) (hy : r64 y) : Int64.ofInt x < Int64.ofInt y ↔ x < y := by
  rw [Int64.lt_iff_toInt_lt, l_to hx, l_to hy]
theorem tmod_r64 {x y : Int} (hx : r64 x) (hy : r64 y) (h : y ≠ 0) : r64 (x.tmod y) := by
  unfold r64 at *
  rcases Int.lt_or_gt_of_ne h with h0 | h0
  · have e : x.tmod y = x.tmod (-y) := by rw [Int.tmod_neg]
    rw [e]
    have := tmod_bounds (a := x) (M := -y) (by omega)
    omega
  · have := tmod_bounds (a := x) (M := y) h0
    omega
theorem l_rem {x y : Int} (hx : r64 x) (hy : r64 y) (h : y ≠ 0) : Int64.ofInt x - Int64.ofInt x / Int64.ofInt y * Int64.ofInt y = Int64.ofInt (x.tmod y) := by
  rw [l_div hx hy, l_mul, l_sub]
  refine (l_of ?_)
  rw [l_to (tmod_r64 hx hy h)]
  have e := Int.tmod_def x y
  have h1 := w64_id (tmod_r64 hx hy h).1 (tmod_r64 hx hy h).2
  rw [← h1, e]
  have key : ∀ a b : Int, w64 (x - w64 (w64 a * b)) = w64 (x - a * b) := by
    intro a b
    have q : Int64.ofInt (w64 (x - w64 (w64 a * b))) = Int64.ofInt (w64 (x - a * b)) := by
      rw [← l_sub, ← l_mul, ← l_sub, l_of (l_tw a), Int64.ofInt_mul]
    exact (l_eq (w64_r _) (w64_r _)).mp q
  rw [key, Int.mul_comm]
theorem st_lrem {x y : Int} (hd : decode (mcd M) pc = .ok (.lrem, 1)) (hy : y ≠ 0) (k : Wp d bc bs M (pc + 1) ls (vl (x.tmod y) :: st) μ Q) : Wp d bc bs M pc ls (vl y :: vl x :: st) μ Q :=
  Wp.step (fun hC _ _ h w => lv_lrem hC.1 hC.2.1 hd (l_ne0 (oks_h h) hy) (by rw [l_rem (oks_h (oks_t h)) (oks_h h) hy]; exact w)) (fun _ _ h => oks_l (tmod_r64 (oks_h (oks_t h)) (oks_h h) hy) (oks_t (oks_t h))) k
theorem st_lcmp {x y : Int} (hd : decode (mcd M) pc = .ok (.lcmp, 1)) (k : Wp d bc bs M (pc + 1) ls (vi (if y < x then 1 else if x = y then 0 else -1) :: st) μ Q) : Wp d bc bs M pc ls (vl y :: vl x :: st) μ Q :=
  Wp.step (fun hC _ _ h w => W.lcmp hC.1 hC.2.1 hd (by
    have hx := oks_h (oks_t h)
    have hy := oks_h h
    have e : lg_cmp (Int64.ofInt x) (Int64.ofInt y) = Int32.ofInt (if y < x then 1 else if x = y then 0 else -1) := by
      unfold lg_cmp
      by_cases h1 : y < x
      · rw [if_pos h1, if_pos ((l_lt hy hx).mpr h1)]; rfl
      · rw [if_neg h1, if_neg (fun z => h1 ((l_lt hy hx).mp z))]
        by_cases h2 : x = y
        · rw [if_pos h2, if_pos ((l_eq hx hy).mpr h2)]; rfl
        · rw [if_neg h2, if_neg (fun z => h2 ((l_eq hx hy).mp z))]; rfl
    rw [e]; exact w)) (fun _ _ h => oks_i (by unfold r32; split <;> (try split) <;> omega) (oks_t (oks_t h))) k
theorem st_pop {v : AV} (hd : decode (mcd M) pc = .ok (.pop, 1)) (hv : isL v = false) (k : Wp d bc bs M (pc + 1) ls st μ Q) : Wp d bc bs M pc ls (v :: st) μ Q :=
  Wp.step (fun hC _ _ _ w => lv_pop hC.1 hC.2.1 hd (by rw [cat_L, hv]; rfl) w) (fun _ _ h => oks_t h) k
theorem st_dup {v : AV} (hd : decode (mcd M) pc = .ok (.dup, 1)) (hv : isL v = false) (k : Wp d bc bs M (pc + 1) ls (v :: v :: st) μ Q) : Wp d bc bs M pc ls (v :: st) μ Q :=
  Wp.step (fun hC _ _ _ w => lv_dup hC.1 hC.2.1 hd (by rw [cat_L, hv]; rfl) w) (fun _ _ h => oks_c (oks_h h) h) k
theorem st_dup_x1 {v u : AV} (hd : decode (mcd M) pc = .ok (.dup_x1, 1)) (hv : isL v = false) (hu : isL u = false) (k : Wp d bc bs M (pc + 1) ls (v :: u :: v :: st) μ Q) : Wp d bc bs M pc ls (v :: u :: st) μ Q :=
  Wp.step (fun hC _ _ _ w => lv_dup_x1 hC.1 hC.2.1 hd (by rw [cat_L, hv]; rfl) (by rw [cat_L, hu]; rfl) w) (fun _ _ h => oks_c (oks_h h) (oks_c (oks_h (oks_t h)) (oks_c (oks_h h) (oks_t (oks_t h))))) k
theorem st_dup2 {v u : AV} (hd : decode (mcd M) pc = .ok (.dup2, 1)) (hv : isL v = false) (hu : isL u = false) (k : Wp d bc bs M (pc + 1) ls (v :: u :: v :: u :: st) μ Q) : Wp d bc bs M pc ls (v :: u :: st) μ Q :=
  Wp.step (fun hC _ _ _ w => lv_dup2_11 hC.1 hC.2.1 hd (by rw [cat_L, hv]; rfl) (by rw [cat_L, hu]; rfl) w) (fun _ _ h => oks_c (oks_h h) (oks_c (oks_h (oks_t h)) h)) k
theorem st_ldc {n : Int} {i : Nat} (hd : decode (mcd M) pc = .ok (.ldc i, 2)) (hw : Cond.constant (onm (mow M)) i (Int32.ofInt n) ∈ bigW) (hr : r32 n) (k : Wp d bc bs M (pc + 2) ls (vi n :: st) μ Q) : Wp d bc bs M pc ls st μ Q :=
  Wp.step (fun hC _ _ _ w => lv_ldc hC.1 hC.2.1 hC.2.2.2.1 (hC.2.2.2.2.1 _ hw) hd w) (fun _ _ h => oks_i hr h) k
theorem st_ldcw {n : Int} {i : Nat} (hd : decode (mcd M) pc = .ok (.ldc_w i, 3)) (hw : Cond.constant (onm (mow M)) i (Int32.ofInt n) ∈ bigW) (hr : r32 n) (k : Wp d bc bs M (pc + 3) ls (vi n :: st) μ Q) : Wp d bc bs M pc ls st μ Q :=
  Wp.step (fun hC _ _ _ w => lv_ldcw hC.1 hC.2.1 hC.2.2.2.1 (hC.2.2.2.2.1 _ hw) hd w) (fun _ _ h => oks_i hr h) k
theorem st_ldc2 {n : Int} {i : Nat} (hd : decode (mcd M) pc = .ok (.ldc2_w i, 3)) (hw : Cond.constantLong (onm (mow M)) i (Int64.ofInt n) ∈ bigW) (hr : r64 n) (k : Wp d bc bs M (pc + 3) ls (vl n :: st) μ Q) : Wp d bc bs M pc ls st μ Q :=
  Wp.step (fun hC _ _ _ w => lv_ldc2 hC.1 hC.2.1 hC.2.2.2.1 (hC.2.2.2.2.1 _ hw) hd w) (fun _ _ h => oks_l hr h) k
theorem st_swOut {dflt lo hi : Int} {offs : Array Int} {len : Nat} {x : Int} {tgt : Nat} (hd : decode (mcd M) pc = .ok (.tableswitch dflt lo hi offs, len)) (h : x < lo ∨ hi < x) (ht : (pc : Int) + dflt = (tgt : Int)) (k : Wp d bc bs M tgt ls st μ Q) : Wp d bc bs M pc ls (vi x :: st) μ Q :=
  Wp.step (fun hC _ _ ho w => lv_tableOut hC.1 hC.2.1 hd (by rw [i_to (oks_h ho)]; exact h) ht w) (fun _ _ h => oks_t h) k
theorem st_swIn {dflt lo hi : Int} {offs : Array Int} {len : Nat} {x off : Int} {tgt : Nat} (hd : decode (mcd M) pc = .ok (.tableswitch dflt lo hi offs, len)) (h1 : ¬ x < lo) (h2 : ¬ hi < x) (ho : offs[(x - lo).toNat]? = some off) (ht : (pc : Int) + off = (tgt : Int)) (k : Wp d bc bs M tgt ls st μ Q) : Wp d bc bs M pc ls (vi x :: st) μ Q :=
  Wp.step (fun hC _ _ hs w => lv_tableIn hC.1 hC.2.1 hd (by rw [i_to (oks_h hs)]; exact h1) (by rw [i_to (oks_h hs)]; exact h2) (by rw [i_to (oks_h hs)]; exact ho) ht w) (fun _ _ h => oks_t h) k
/-- a step that changes the locals -/
theorem Wp.loc {d bc bs : Nat} {M : MI} {pc pc' : Nat} {ls ls' : List (Option AV)} {st st' : List AV} {μ : Mem} {Q : Option (Option AV) → Mem → Prop}
    (f : ∀ {p : Program} {l : Launch} {e : Env} {R : Room} {s : State} {m : MethodId} {args : Array Value} {below : List Frame} {meth : Method} {c : Code} {H : Heap} {locs : List Loc} {cells slots : Nat} {Qf : State → Prop} {G : GT} {lm : Array Slot},
      Cx d M G p l R s m args meth c → LR (gad G) ls (mml M) lm → oks st → (∀ lm' : Array Slot, LR (gad G) ls' (mml M) lm' → W p l e R s m args below meth c H locs cells slots Qf (F0 m pc' lm' (st'.map (toV (gad G))))) → W p l e R s m args below meth c H locs cells slots Qf (F0 m pc lm (st.map (toV (gad G)))))
    (ho : oks st → oks st') (k : Wp d bc bs M pc' ls' st' μ Q) : Wp d bc bs M pc ls st μ Q := by
  intro p l e R s m args below meth c H locs cells slots Qf G lm hC hR hL hs hc hsl hE
  exact f hC hL hs (fun lm' hL' => k p l e R s m args below meth c H locs cells slots Qf G lm' hC hR hL' (ho hs) hc hsl hE)
theorem st_istore_n {n : Fin 4} {i : Nat} {x : Int} (hd : decode (mcd M) pc = .ok (.istore_n n, 1)) (hi : (n : Nat) = i) (hl : i < ls.length) (k : Wp d bc bs M (pc + 1) (sto ls i (vi x)) st μ Q) : Wp d bc bs M pc ls (vi x :: st) μ Q :=
  Wp.loc (fun hC hL ho w => lv_istore_n hC.1 hC.2.1 hd hi hL.has (Nat.lt_of_lt_of_le hl hL.1) rfl (fun lm' h => w lm' (hL.sto1 (v := vi x) hl (oks_h ho) h))) oks_t k
theorem st_istore {i : Nat} {x : Int} (hd : decode (mcd M) pc = .ok (.istore i, 2)) (hl : i < ls.length) (k : Wp d bc bs M (pc + 2) (sto ls i (vi x)) st μ Q) : Wp d bc bs M pc ls (vi x :: st) μ Q :=
  Wp.loc (fun hC hL ho w => lv_istore hC.1 hC.2.1 hd hL.has (Nat.lt_of_lt_of_le hl hL.1) rfl (fun lm' h => w lm' (hL.sto1 (v := vi x) hl (oks_h ho) h))) oks_t k
theorem st_lstore_n {n : Fin 4} {i : Nat} {x : Int} (hd : decode (mcd M) pc = .ok (.lstore_n n, 1)) (hi : (n : Nat) = i) (hl : i + 1 < ls.length) (k : Wp d bc bs M (pc + 1) (sto2 ls i (vl x)) st μ Q) : Wp d bc bs M pc ls (vl x :: st) μ Q :=
  Wp.loc (fun hC hL ho w => lv_lstore_n hC.1 hC.2.1 hd hi hL.has (Nat.lt_of_lt_of_le hl hL.1) rfl (fun lm' h => w lm' (hL.sto2' (v := vl x) hl (oks_h ho) h))) oks_t k
theorem st_lstore {i : Nat} {x : Int} (hd : decode (mcd M) pc = .ok (.lstore i, 2)) (hl : i + 1 < ls.length) (k : Wp d bc bs M (pc + 2) (sto2 ls i (vl x)) st μ Q) : Wp d bc bs M pc ls (vl x :: st) μ Q :=
  Wp.loc (fun hC hL ho w => lv_lstore hC.1 hC.2.1 hd hL.has (Nat.lt_of_lt_of_le hl hL.1) rfl (fun lm' h => w lm' (hL.sto2' (v := vl x) hl (oks_h ho) h))) oks_t k
theorem st_astore_n {n : Fin 4} {i r : Nat} (hd : decode (mcd M) pc = .ok (.astore_n n, 1)) (hi : (n : Nat) = i) (hl : i < ls.length) (k : Wp d bc bs M (pc + 1) (sto ls i (vr r)) st μ Q) : Wp d bc bs M pc ls (vr r :: st) μ Q := by
  refine Wp.loc (fun {p l e R s m args below meth c H locs cells slots Qf G lm} hC hL ho w => ?_) oks_t k
  by_cases z : r = 0
  · subst z
    exact lv_astore_nN hC.1 hC.2.1 hd hi hL.has (Nat.lt_of_lt_of_le hl hL.1) rfl (fun lm' h => w lm' (hL.sto1 (v := vr 0) hl trivial h))
  · have e2 : toV (gad G) (vr r) = .ref (gad G r) := if_neg z
    rw [List.map_cons, e2]
    exact lv_astore_n hC.1 hC.2.1 hd hi hL.has (Nat.lt_of_lt_of_le hl hL.1) rfl (fun lm' h => w lm' (hL.sto1 (v := vr r) hl trivial (by rw [e2]; exact h)))
theorem st_astore {i r : Nat} (hd : decode (mcd M) pc = .ok (.astore i, 2)) (hl : i < ls.length) (k : Wp d bc bs M (pc + 2) (sto ls i (vr r)) st μ Q) : Wp d bc bs M pc ls (vr r :: st) μ Q := by
  refine Wp.loc (fun {p l e R s m args below meth c H locs cells slots Qf G lm} hC hL ho w => ?_) oks_t k
  by_cases z : r = 0
  · subst z
    exact lv_astoreN hC.1 hC.2.1 hd hL.has (Nat.lt_of_lt_of_le hl hL.1) rfl (fun lm' h => w lm' (hL.sto1 (v := vr 0) hl trivial h))
  · have e2 : toV (gad G) (vr r) = .ref (gad G r) := if_neg z
    rw [List.map_cons, e2]
    exact lv_astore hC.1 hC.2.1 hd hL.has (Nat.lt_of_lt_of_le hl hL.1) rfl (fun lm' h => w lm' (hL.sto1 (v := vr r) hl trivial (by rw [e2]; exact h)))
theorem st_iinc {i : Nat} {n x : Int} (hd : decode (mcd M) pc = .ok (.iinc i n, 3)) (hl : ls[i]? = some (some (vi x))) (k : Wp d bc bs M (pc + 3) (sto ls i (vi (w32 (x + n)))) st μ Q) : Wp d bc bs M pc ls st μ Q := by
  refine Wp.loc (fun {p l e R s m args below meth c H locs cells slots Qf G lm} hC hL ho w => ?_) (fun h => h) k
  have hm := List.getElem?_of_mem (lvl_mem (ad := gad G) hL.1 hl)
  obtain ⟨j, hj⟩ := hm
  have hi : i < ls.length := (List.getElem?_eq_some_iff.mp hl).1
  exact lv_iinc (v := Int32.ofInt (w32 (x + n))) hC.1 hC.2.1 hd hL.has hj (i_add x n) (Nat.lt_of_lt_of_le hi hL.1) rfl (fun lm' h => w lm' (hL.sto1 (v := vi (w32 (x + n))) hi (w32_r _) h))
end PURE2
