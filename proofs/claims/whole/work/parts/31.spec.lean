/-! ===== what a TICK does, as functions of what is seen ===== -/
def zabs (x : Int) : Int := if x < 0 then w32 (-x) else x
def zslope (c : Cv) (r : Rv) : Int := w32 (r.1 0 - r.1 (cLast c))
def zhigh (c : Cv) (r : Rv) : Int := max (r.1 0) (r.1 (cLast c))
def ztick (c : Cv) (pa pc : Int) (s : Sv) : Int × Sv :=
  (w32 ((zrow c pa (sAl s)).1 + (zrow c pc (sAc s)).1),
   w32 (sTick s + 1), sDrawn s, (zrow c pa (sAl s)).2, (zrow c pc (sAc s)).2, zu (sSeen s) (sTick s % 21) (zslope c (sAl s)))
def zseen (c : Cv) (s : Sv) : Int := if cSet c 5 = 0 then zslope c (sAl s) else if cSet c 5 ≤ sTick s then sSeen s ((sTick s - cSet c 5) % 21) else 0
/-! laws, as codes: things and signs in the order in which they are worked out -/
def zjoin (x a b : Int) : Int := if x = -1 then w32 (a + b) else if x = -2 then w32 (a - b) else if x = -3 then w32 (a * b) else if b = 0 then 0 else w32 (a.tdiv b)
def zname (x p s t f h : Int) : Int := if x = -6 then p else if x = -7 then s else if x = -8 then t else if x = -9 then f else h
def zpush (p s t f h x : Int) (st : List Int) : List Int := if st.length < 40 then (if x < 0 then zname x p s t f h else x) :: st else st
def zev (p s t f h x : Int) (st : List Int) : List Int := match st with
  | [] => zpush p s t f h x []
  | a :: r => if x = -5 then w32 (-a) :: r else match r with
    | [] => zpush p s t f h x [a]
    | b :: r' => if -4 ≤ x ∧ x ≤ -1 then zjoin x b a :: r' else zpush p s t f h x (a :: b :: r')
def ztop : List Int → Int
  | [] => 0
  | a :: _ => btw a (-500) 500
def zlaw (cd : List Int) (p s t f h : Int) : Int := ztop (cd.foldl (fun st x => zev p s t f h x st) [])
def zgiven (c : Cv) (L : Option (List Int)) (s : Sv) (push : Int) : Int := match L with
  | none => push
  | some cd => zlaw cd push (zseen c s) (sTick s) (cSet c 2) ((sAl s).1 0)
def zrand (r : Int) : Int := w32 (w32 (r * 1103515245) + 12345)
def zdraw (r m : Int) : Int := w32 ((bUshr r 16).tmod (w32 (w32 (2 * m) + 1)) - m)
def zwan (m : Int) (s : Sv) : Int := if 0 < m then zdraw (zrand (sDrawn s)) m else 0
def zwans (m : Int) (s : Sv) : Sv := if 0 < m then (sTick s, zrand (sDrawn s), s.2.2) else s
/-- ticks, steps, along, across, wander, step -/
abbrev Wv : Type := Int × Int × (Int → Int) × (Int → Int) × (Int → Int) × (Int → Int)
def wTicks (w : Wv) : Int := w.1
def wSteps (w : Wv) : Int := w.2.1
def wAl (w : Wv) : Int → Int := w.2.2.1
def wAc (w : Wv) : Int → Int := w.2.2.2.1
def wWan (w : Wv) : Int → Int := w.2.2.2.2.1
def wSt (w : Wv) : Int → Int := w.2.2.2.2.2
def wkv (D : DD) (w : Nat) : Wv := (D w 4, D w 5, cut (D w 4) (D (w + 1)), cut (D w 4) (D (w + 2)), cut (D w 4) (D (w + 3)), cut (D w 4) (D (w + 4)))
def zcarry (c : Cv) (L : Option (List Int)) (w : Wv) (i t : Int) (s : Sv) : Int × Sv :=
  if t = 0 then ztick c (zgiven c L (zwans (wWan w i) s) (w32 (wAl w i + zwan (wWan w i) s))) (wAc w i) (zwans (wWan w i) s)
  else ztick c (wAc w i) (zgiven c L (zwans (wWan w i) s) (w32 (wAl w i + zwan (wWan w i) s))) (zwans (wWan w i) s)
/-- a run: the state, SPILT, the TICK in which first, the greatest HEIGHT of an end, the greatest size of SLOPE, the TICKS in which something is SPILT -/
abbrev Zr : Type := Sv × Int × Int × Int × Int × List Int
def zS (z : Zr) : Sv := z.1
def zSum (z : Zr) : Int := z.2.1
def zFirst (z : Zr) : Int := z.2.2.1
def zHigh (z : Zr) : Int := z.2.2.2.1
def zGsl (z : Zr) : Int := z.2.2.2.2.1
def zList (z : Zr) : List Int := z.2.2.2.2.2
def znote (cap : Nat) (c : Cv) (x : Int × Sv) (z : Zr) : Zr :=
  (x.2, w32 (zSum z + x.1), (if 0 < x.1 ∧ zFirst z = -1 then w32 (sTick x.2 - 1) else zFirst z), max (zHigh z) (max (zhigh c (sAl x.2)) (zhigh c (sAc x.2))),
   max (zGsl z) (zabs (zslope c (sAl x.2))), (if 0 < x.1 ∧ (zList z).length < cap then zList z ++ [w32 (sTick x.2 - 1)] else zList z))
/-- n TICKS of a WALK from i on; t says which are turned -/
def zrun (cap : Nat) (c : Cv) (L : Option (List Int)) (w : Wv) (t : Int → Int) : Nat → Int → Zr → Zr
  | 0, _, z => z
  | n + 1, i, z => zrun cap c L w t n (i + 1) (znote cap c (zcarry c L w i (t i) (zS z)) z)
theorem zrun_0 {cap : Nat} {c : Cv} {L : Option (List Int)} {w : Wv} {t : Int → Int} {i : Int} {z : Zr} : zrun cap c L w t 0 i z = z := rfl
theorem zrun_s {cap : Nat} {c : Cv} {L : Option (List Int)} {w : Wv} {t : Int → Int} {n : Nat} {i : Int} {z : Zr} : zrun cap c L w t (n + 1) i z = zrun cap c L w t n (i + 1) (znote cap c (zcarry c L w i (t i) (zS z)) z) := rfl
theorem zrun_l {cap : Nat} {c : Cv} {L : Option (List Int)} {w : Wv} {t : Int → Int} : ∀ {n : Nat} {i : Int} {z : Zr}, zrun cap c L w t (n + 1) i z = znote cap c (zcarry c L w (i + n) (t (i + n)) (zS (zrun cap c L w t n i z))) (zrun cap c L w t n i z)
  | 0, i, z => by
    show znote cap c (zcarry c L w i (t i) (zS z)) z = znote cap c (zcarry c L w (i + (0 : Nat)) (t (i + (0 : Nat))) (zS z)) z
    rw [show i + ((0 : Nat) : Int) = i by omega]
  | n + 1, i, z => by
    rw [zrun_s, zrun_l (n := n), zrun_s]
    rw [show i + 1 + (n : Int) = i + ((n + 1 : Nat) : Int) by omega]
theorem zrun_add {cap : Nat} {c : Cv} {L : Option (List Int)} {w : Wv} {t : Int → Int} {m : Nat} : ∀ {n : Nat} {i : Int} {z : Zr}, zrun cap c L w t (n + m) i z = zrun cap c L w t m (i + n) (zrun cap c L w t n i z)
  | 0, i, z => by
    rw [Nat.zero_add, zrun_0, show i + ((0 : Nat) : Int) = i by omega]
  | n + 1, i, z => by
    rw [show n + 1 + m = (n + m) + 1 by omega, zrun_s, zrun_add (n := n), zrun_s]
    rw [show i + 1 + (n : Int) = i + ((n + 1 : Nat) : Int) by omega]
theorem zrun_t {cap : Nat} {c : Cv} {L : Option (List Int)} {w : Wv} {t t' : Int → Int} : ∀ {n : Nat} {i : Int} {z : Zr}, (∀ k : Int, i ≤ k → k < i + n → t k = t' k) → zrun cap c L w t n i z = zrun cap c L w t' n i z
  | 0, _, _, _ => rfl
  | n + 1, i, z, h => by
    rw [zrun_s, zrun_s, h i (by omega) (by omega)]
    exact zrun_t (fun k k0 k1 => h k (by omega) (by omega))
def lst (f : Int → Int) (n : Int) : List Int := (List.range n.toNat).map (fun k : Nat => f (k : Int))
theorem lst_len {f : Int → Int} {n : Int} : (lst f n).length = n.toNat := by unfold lst; rw [List.length_map, List.length_range]
theorem lst_0 {f : Int → Int} {n : Int} (h : n ≤ 0) : lst f n = [] := by
  unfold lst
  rw [show n.toNat = 0 by omega]
  rfl
theorem lst_s {f : Int → Int} {n : Int} (h : 0 ≤ n) : lst f (n + 1) = lst f n ++ [f n] := by
  unfold lst
  rw [show (n + 1).toNat = n.toNat + 1 by omega, List.range_succ, List.map_append]
  show _ ++ [f (n.toNat : Int)] = _
  rw [Int.toNat_of_nonneg h]
theorem lst_ext {f g : Int → Int} {n : Int} (h : ∀ k, 0 ≤ k → k < n → f k = g k) : lst f n = lst g n := by
  unfold lst
  refine List.map_congr_left fun k hk => h k (by omega) ?_
  have := List.mem_range.mp hk
  omega
theorem lst_push {f : Int → Int} {n x : Int} (h : 0 ≤ n) : lst (zu f n x) (n + 1) = lst f n ++ [x] := by
  rw [lst_s h, zu_at, lst_ext (fun k h0 h1 => zu_ne (by omega))]
/-! what must hold of a state -/
def SOK (s : Sv) : Prop := HOK (sAl s).1 ∧ HOK (sAc s).1 ∧ 0 ≤ sTick s
